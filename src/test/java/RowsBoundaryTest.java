/** A test of its own for each sentence that names a boundary case of promises 11 to 15. */
public final class RowsBoundaryTest extends Checks {
    public static void main(String[] args) {
        runAll(RowsBoundaryTest.class, 11, 15);
    }

    private static final String LOWEST = "32*32*32*32*32*32*2";

    /** One PIECE in a ROW, LOUD 5, and a LIKING of PLACE for each WEIGHT 1 by down, with the TEXT 1. */
    private static EveningOrder weighing(int... downs) {
        EveningOrder x = new EveningOrder();
        x.piece(1005, 0, 0, 0);
        row(x, 0, 0);
        for (int i = 0; i < downs.length; i++) {
            x.liking(3, downs[i] < 0 ? -1 : 1, Math.abs(downs[i]));
            text(x, i, "1");
        }
        return x;
    }

    private static void worthIs(long above, long below, EveningOrder x, int interval) {
        due(above, x, "worth", 0, interval, 0);
        due(below, x, "worth", 0, interval, 1);
    }

    /** LIKING 0 of a KIND, with a TEXT if it isn't empty, of PIECES told by sound, players, things, effort. */
    private static EveningOrder liked(int kind, String text, int[]... pieces) {
        EveningOrder x = new EveningOrder();
        int[] numbers = new int[pieces.length];
        for (int i = 0; i < pieces.length; i++) {
            x.piece(pieces[i][0], pieces[i][1], pieces[i][2], pieces[i][3]);
            numbers[i] = i;
        }
        row(x, 0, numbers);
        x.liking(kind, 1, 1);
        if (!text.isEmpty()) {
            due("text " + text, text(x, 0, text) >= 0 ? 1 : 0, 1);
        }
        return x;
    }

    private static int[] sound(int sound) {
        return new int[] {sound, 0, 0, 0};
    }

    private static EveningOrder twelve() {
        EveningOrder x = plainPieces(12);
        row(x, 0, 0, 1, 2, 3, 4, 5, 6, 7, 8, 9, 10, 11);
        return x;
    }

    // ---- promise 11: worth

    static void promise11_noSuchSheet() {
        asksForASheet("worth", 0);
        asksForASheet("worth", 2);
    }

    static void promise11_missingSheet() {
        asksWhetherItIsMissing("worth", 0);
    }

    static void promise11_noRow() {
        asksForARow("worth", 1);
    }

    static void promise11_theIntervalCannotStandThere() {
        asksWhereTheIntervalStands("worth", 0);
    }

    static void promise11_noSuchPart() {
        for (long part : new long[] {-1, 2, MIN, MAX}) {
            refused(BEYOND, Checks::full, "worth", 0, 0, part);
        }
    }

    static void promise11_partIsAskedAheadOfNoneAndKind() {
        refused(BEYOND, Checks::full, "worth", 3, 0, 2);
        refused(BEYOND, Checks::full, "worth", 0, -1, 2);
    }

    static void promise11_firstAndLastSheet() {
        EveningOrder x = weighing(1);
        row(x, 3, 0);
        due(1, x, "worth", 0, 0, 0);
        due(1, x, "worth", 3, 0, 0);
    }

    static void promise11_sheetsOfAllBits() {
        EveningOrder x = weighing(3);
        for (int bits = 8; bits <= 32; bits *= 2) {
            x.sheet(1, bits, 1);
            due(1, x, "worth", 1, 0, 0);
            due(3, x, "worth", 1, 0, 1);
        }
    }

    static void promise11_theIntervalFromNowhereToTheLastButOne() {
        EveningOrder x = plainPieces(3);
        row(x, 0, 0, 1, 2);
        x.liking(3, 1, 1);
        text(x, 0, "i*10+j");
        worthIs(11, 1, x, 0);
        worthIs(22, 1, x, 1);
        worthIs(22, 1, x, 2);
        due(KIND, x, "worth", 0, 3, 0);
    }

    static void promise11_aRowOfOne() {
        worthIs(1, 1, weighing(1), 0);
    }

    static void promise11_aRowOfTwelve() {
        EveningOrder x = twelve();
        x.liking(3, 1, 1);
        text(x, 0, "p");
        worthIs(66, 1, x, 0);
        worthIs(66, 1, x, 11);
    }

    static void promise11_theLowestBitsAreTheNumber() {
        EveningOrder x = weighing(2);
        x.put(0, 0, 256);
        worthIs(1, 2, x, 0);
        x.put(0, 0, 255);
        due(KIND, x, "worth", 0, 0, 0);
    }

    static void promise11_withoutLikings0By1() {
        worthIs(0, 1, weighing(), 0);
    }

    static void promise11_allOff0By1() {
        EveningOrder x = weighing(7, 9);
        x.turn(0, false);
        x.turn(1, false);
        worthIs(0, 1, x, 0);
    }

    static void promise11_weight0Is0By1() {
        EveningOrder x = weighing();
        x.liking(3, 0, 9);
        text(x, 0, "1");
        worthIs(0, 1, x, 0);
    }

    static void promise11_whatCancelsIs0By1() {
        worthIs(0, 1, weighing(7, -7), 0);
    }

    static void promise11_aWholeNumberIsBy1() {
        worthIs(1, 1, weighing(2, 2), 0);
        worthIs(-1, 1, weighing(-3, -3, -3), 0);
    }

    static void promise11_leastTerms() {
        worthIs(2, 3, weighing(6, 6, 3), 0);
        worthIs(1, 2, weighing(4, 8, 8), 0);
        EveningOrder x = weighing();
        x.liking(3, 6, 9);
        text(x, 0, "1");
        worthIs(2, 3, x, 0);
    }

    static void promise11_belowTheLineIsNeverNegative() {
        worthIs(-1, 9, weighing(-9), 0);
        worthIs(-2, 3, weighing(-6, -6, -3), 0);
    }

    static void promise11_greatestBelowTheLine() {
        worthIs(504 + 360 + 315 + 280, 2520, weighing(5, 7, 8, 9), 0);
    }

    static void promise11_tenLikingsTogether() {
        worthIs(10, 9, weighing(9, 9, 9, 9, 9, 9, 9, 9, 9, 9), 0);
    }

    static void promise11_moreThanAnIntHolds() {
        EveningOrder x = weighing();
        for (int i = 0; i < 10; i++) {
            x.liking(3, -9, 1);
            text(x, i, LOWEST);
        }
        worthIs(90 * (1L << 31), 1, x, 0);
        EveningOrder y = weighing();
        y.liking(3, 9, 7);
        text(y, 0, LOWEST);
        worthIs(-9 * (1L << 31), 7, y, 0);
    }

    static void promise11_asLowAsAnErrorIsNoError() {
        EveningOrder x = weighing();
        x.liking(3, 1, 1);
        text(x, 0, "-99*99*99-99*99*3-99*3-2");
        worthIs(BEYOND, 1, x, 0);
        due(0, x, "told", 1);
    }

    // ---- promise 12: worthBy

    static void promise12_noSuchSheet() {
        asksForASheet("worthBy", 0);
        asksForASheet("worthBy", 9);
    }

    static void promise12_missingSheet() {
        asksWhetherItIsMissing("worthBy", 0);
    }

    static void promise12_noRow() {
        asksForARow("worthBy", 0);
    }

    static void promise12_theIntervalCannotStandThere() {
        asksWhereTheIntervalStands("worthBy", 0);
    }

    static void promise12_noSuchLiking() {
        for (long liking : new long[] {-1, 7, MIN, MAX}) {
            refused(BEYOND, Checks::full, "worthBy", 0, 0, liking);
        }
        due(BEYOND, weighing(), "worthBy", 0, 0, 0);
    }

    static void promise12_likingIsAskedAheadOfNoneAndKind() {
        refused(BEYOND, Checks::full, "worthBy", 3, 0, 7);
        refused(BEYOND, Checks::full, "worthBy", 0, -1, 7);
    }

    static void promise12_theTenthLiking() {
        EveningOrder x = weighing(1, 1, 1, 1, 1, 1, 1, 1, 1, 1);
        text(x, 9, "10");
        due(10, x, "worthBy", 0, 0, 9);
        due(1, x, "worthBy", 0, 0, 8);
        due(BEYOND, x, "worthBy", 0, 0, 10);
    }

    static void promise12_offAndWithoutWeight() {
        EveningOrder x = weighing();
        x.liking(3, 0, 9);
        text(x, 0, "4");
        due(4, x, "worthBy", 0, 0, 0);
        x.turn(0, false);
        due(4, x, "worthBy", 0, 0, 0);
        x.liking(3, -9, 2);
        text(x, 1, "4");
        due(4, x, "worthBy", 0, 0, 1);
    }

    static void promise12_aLikingIsWorth0() {
        due(0, liked(0, "", sound(60119), sound(60119)), "worthBy", 0, 1, 0);
    }

    static void promise12_aRowOfOneHasNoNeighbours() {
        due(0, liked(1, "1", sound(1000)), "worthBy", 0, 0, 0);
        due(0, liked(5, "1", new int[] {1000, 0, 255, 0}), "worthBy", 0, 0, 0);
    }

    static void promise12_noNeighboursAcrossTheInterval() {
        EveningOrder x = liked(1, "1", sound(1000), sound(1000), sound(1000));
        due(2, x, "worthBy", 0, 0, 0);
        due(1, x, "worthBy", 0, 1, 0);
        due(1, x, "worthBy", 0, 2, 0);
        int[] with = {1000, 0, 255, 0};
        EveningOrder y = liked(5, "", with, sound(1000), with);
        due(-16, y, "worthBy", 0, 0, 0);
        due(-8, y, "worthBy", 0, 1, 0);
        due(-8, y, "worthBy", 0, 2, 0);
    }

    static void promise12_nextWithoutTextIs0() {
        due(0, liked(1, "", sound(1000), sound(1119)), "worthBy", 0, 0, 0);
    }

    static void promise12_stageWithoutTextIsLessCarried() {
        due(-8, liked(5, "", new int[] {1000, 0, 255, 0}, sound(1000)), "worthBy", 0, 0, 0);
        due(0, liked(5, "", sound(1000), sound(1000)), "worthBy", 0, 0, 0);
    }

    static void promise12_placeWithoutTextIs0() {
        due(0, liked(3, "", sound(1009), sound(1009)), "worthBy", 0, 1, 0);
    }

    static void promise12_sinceWithoutTextIsTheMinutes() {
        due(3, liked(2, "", sound(1000), sound(3010), sound(1000)), "worthBy", 0, 0, 0);
        due(23, liked(2, "", sound(1000), sound(3010), sound(1000)), "worthBy", 0, 1, 0);
    }

    static void promise12_sinceWithATextIsThatInstead() {
        due(7, liked(2, "7", sound(1000), sound(3010), sound(1000)), "worthBy", 0, 0, 0);
    }

    static void promise12_sinceOfNoneOfItsKeyAhead() {
        due(0, liked(2, "", sound(1000), sound(1010), sound(1020)), "worthBy", 0, 2, 0);
        due(0, liked(2, "1", sound(1000), sound(1010), sound(1020)), "worthBy", 0, 2, 0);
    }

    static void promise12_sinceOf0Minutes() {
        due(0, liked(2, "", sound(1000), sound(1000)), "worthBy", 0, 0, 0);
        due(1, liked(2, "m=0", sound(1000), sound(1000)), "worthBy", 0, 0, 0);
    }

    static void promise12_sinceTheLatestOfItsKey() {
        EveningOrder x = liked(2, "", sound(1000), sound(4000), sound(2010), sound(1000));
        due(0 + 2, x, "worthBy", 0, 0, 0);
        due(20 + 2, x, "worthBy", 0, 1, 0);
        due(0 + 22, x, "worthBy", 0, 2, 0);
        due(0 + 22, x, "worthBy", 0, 3, 0);
    }

    static void promise12_tiredWithoutTextIsTheNumber() {
        EveningOrder x = liked(4, "", new int[] {1000, 1, 0, 9}, new int[] {2000, 2, 0, 7});
        due(16, x, "worthBy", 0, 0, 0);
    }

    static void promise12_tiredWithATextIsThatInstead() {
        due(18, liked(4, "t*2", new int[] {1000, 1, 0, 9}), "worthBy", 0, 0, 0);
    }

    static void promise12_tiredWithoutPlayersIs0() {
        EveningOrder x = liked(4, "", new int[] {1000, 1, 0, 9}, new int[] {2000, 0, 0, 99});
        due(9, x, "worthBy", 0, 0, 0);
        due(1, liked(4, "t=0", new int[] {2000, 0, 0, 99}), "worthBy", 0, 0, 0);
    }

    static void promise12_tiredOfItsOwnPlayersOnly() {
        // behind the second PIECE PLAYER 0 is TIRED by 48, PLAYER 7 by 3
        EveningOrder x = liked(4, "", new int[] {1000, 1, 0, 50}, new int[] {2000, 128, 0, 3});
        due(53, x, "worthBy", 0, 0, 0);
    }

    static void promise12_theMostTiredOfItsPlayers() {
        EveningOrder x = liked(4, "", new int[] {1000, 128, 0, 50}, new int[] {2000, 129, 0, 3});
        due(50 + 53, x, "worthBy", 0, 0, 0);
    }

    static void promise12_boundWithoutMustsIs0() {
        due(0, liked(6, "", sound(1000)), "worthBy", 0, 0, 0);
    }

    static void promise12_boundOfTenThatAreBroken() {
        EveningOrder x = liked(6, "", sound(1000), sound(1000));
        for (int i = 0; i < 10; i++) {
            x.must(3, 1, 0);
        }
        due(-10, x, "worthBy", 0, 0, 0);
        row(x, 0, 1, 0);
        due(0, x, "worthBy", 0, 0, 0);
    }

    static void promise12_keysTheLesserWayRound() {
        int[][] apart = {{0, 0, 0}, {0, 6, 6}, {0, 7, 5}, {0, 11, 1}, {11, 0, 1}, {7, 0, 5}, {6, 0, 6}, {5, 11, 6},
            {0, 1, 1}, {3, 10, 5}, {11, 11, 0}};
        for (int[] keys : apart) {
            due(keys[2], liked(1, "k", sound(1000 + 10 * keys[0]), sound(1000 + 10 * keys[1])), "worthBy", 0, 0, 0);
        }
    }

    static void promise12_loudOfTheFirstAndTheSecond() {
        due(9, liked(1, "a", sound(1009), sound(1000)), "worthBy", 0, 0, 0);
        due(0, liked(1, "a", sound(1000), sound(1009)), "worthBy", 0, 0, 0);
        due(0, liked(1, "b", sound(1009), sound(1000)), "worthBy", 0, 0, 0);
        due(9, liked(1, "b", sound(1000), sound(1009)), "worthBy", 0, 0, 0);
    }

    static void promise12_loudOfTheFirstAndTheSecondOfEachPair() {
        EveningOrder x = liked(1, "a*10+b", sound(1001), sound(1004), sound(1002));
        due(14 + 42, x, "worthBy", 0, 0, 0);
        due(42, x, "worthBy", 0, 1, 0);
        due(14, x, "worthBy", 0, 2, 0);
    }

    static void promise12_carriedFrom0To8() {
        int[] all = {1000, 0, 255, 0};
        due(0, liked(1, "s", sound(1000), sound(1000)), "worthBy", 0, 0, 0);
        due(0, liked(1, "s", all, all), "worthBy", 0, 0, 0);
        due(8, liked(1, "s", sound(1000), all), "worthBy", 0, 0, 0);
        due(8, liked(1, "s", all, sound(1000)), "worthBy", 0, 0, 0);
        due(0, liked(5, "s", all, sound(1000)), "worthBy", 0, 0, 0);
    }

    static void promise12_placesFrom0On() {
        EveningOrder x = twelve();
        x.liking(3, 1, 1);
        text(x, 0, "p=0");
        due(1, x, "worthBy", 0, 0, 0);
        text(x, 0, "(p=11)*5");
        due(5, x, "worthBy", 0, 0, 0);
        text(x, 0, "11<p");
        due(0, x, "worthBy", 0, 0, 0);
    }

    static void promise12_howManyThereAreInTheRow() {
        EveningOrder x = twelve();
        x.liking(3, 1, 1);
        text(x, 0, "n");
        due(144, x, "worthBy", 0, 0, 0);
        row(x, 0, 3);
        due(1, x, "worthBy", 0, 0, 0);
        row(x, 0, 3, 8);
        due(4, x, "worthBy", 0, 1, 0);
    }

    /** By place, i in tens and j in ones. */
    private static void ends(int interval, int... due) {
        for (int p = 0; p < due.length; p++) {
            EveningOrder x = plainPieces(due.length);
            int[] numbers = new int[due.length];
            for (int i = 0; i < due.length; i++) {
                numbers[i] = i;
            }
            row(x, 0, numbers);
            x.liking(3, 1, 1);
            text(x, 0, "(p=" + p + ")*(i*10+j)");
            due(due[p], x, "worthBy", 0, interval, 0);
        }
    }

    static void promise12_firstAndLastWithoutAnInterval() {
        ends(0, 1, 0, 0, 10);
    }

    static void promise12_firstAndLastOfOneAreTheSame() {
        ends(0, 11);
    }

    static void promise12_rightAheadOfAndBehindTheInterval() {
        ends(1, 11, 1, 0, 10);
        ends(2, 1, 10, 1, 10);
        ends(3, 1, 0, 10, 11);
        ends(1, 11, 11);
    }

    static void promise12_sumsAndProductsWrap() {
        due(LOWEST, comesTo(LOWEST), MIN);
        due("one less", comesTo(LOWEST + "-1"), MAX);
        due("one more again", comesTo(LOWEST + "-1+1"), MIN);
        due("twice", comesTo(LOWEST + "*2"), 0);
        due("of 99s", comesTo("99*99*99*99*99"), (int) 9509900499L);
    }

    static void promise12_minusOfTheLowestWraps() {
        due("minus", comesTo("-(" + LOWEST + ")"), MIN);
    }

    static void promise12_theLowestByMinus1Wraps() {
        due("by -1", comesTo(LOWEST + "/-1"), MIN);
    }

    static void promise12_placesTogetherWrap() {
        EveningOrder x = liked(3, LOWEST, sound(1000), sound(1000), sound(1000));
        due(MIN, x, "worthBy", 0, 0, 0);
        row(x, 0, 0, 1);
        due(0, x, "worthBy", 0, 0, 0);
    }

    static void promise12_stageWrapsToo() {
        EveningOrder x = liked(5, LOWEST, sound(1000), new int[] {1000, 0, 1, 0});
        due(MAX, x, "worthBy", 0, 0, 0);
    }

    static void promise12_by0Is0() {
        due("7/0", comesTo("7/0"), 0);
        due("0/0", comesTo("0/0"), 0);
        due("-7/0", comesTo("-7/0"), 0);
        due("7/(a-7)", comesTo("7/(a-7)"), 0);
        due("7/0*5+3", comesTo("7/0*5+3"), 3);
    }

    static void promise12_quotientsAreCutToward0() {
        due("7/2", comesTo("7/2"), 3);
        due("-7/2", comesTo("-7/2"), -3);
        due("7/-2", comesTo("7/-2"), -3);
        due("-7/-2", comesTo("-7/-2"), 3);
        due("1/2", comesTo("1/2"), 0);
        due("-1/2", comesTo("-1/2"), 0);
    }

    static void promise12_lessIs1Or0() {
        due("2<3", comesTo("2<3"), 1);
        due("3<3", comesTo("3<3"), 0);
        due("4<3", comesTo("4<3"), 0);
        due("lowest<highest", comesTo(LOWEST + "<(" + LOWEST + "-1)"), 1);
        due("highest<lowest", comesTo("(" + LOWEST + "-1)<(" + LOWEST + ")"), 0);
    }

    static void promise12_equalIs1Or0() {
        due("2=3", comesTo("2=3"), 0);
        due("3=3", comesTo("3=3"), 1);
        due("3=2", comesTo("3=2"), 0);
        due("0=-0", comesTo("0=-0"), 1);
    }

    static void promise12_anyFirstBut0TakesTheSecond() {
        due("0", comesTo("0?10:20"), 20);
        due("1", comesTo("1?10:20"), 10);
        due("-1", comesTo("-1?10:20"), 10);
        due("lowest", comesTo(LOWEST + "?10:20"), 10);
        due("1-1", comesTo("1-1?10:20"), 20);
    }

    static void promise12_whatIsNotTakenMayBeBy0() {
        due("third by 0", comesTo("1?10:1/0"), 10);
        due("second by 0", comesTo("0?1/0:20"), 20);
    }

    static void promise12_productsFromTheLeft() {
        due("7/2*2", comesTo("7/2*2"), 6);
        due("2*7/2", comesTo("2*7/2"), 7);
        due("1<2=1", comesTo("1<2=1"), 1);
        due("5=5*9", comesTo("5=5*9"), 9);
        due("9-5-3", comesTo("9-5-3"), 1);
    }

    static void promise12_fiveOpenComeToTheirNumber() {
        due("5 minus", comesTo("-----a"), -7);
        due("5 braces", comesTo("1-(2-(3-(4-(5-(6)))))"), -3);
        due("5 choices", comesTo("1?1?1?1?0?1:2:3:4:5:6"), 2);
        due("5 thirds", comesTo("0?1:0?2:0?3:0?4:0?5:6"), 6);
    }

    static void promise12_numbersFrom0To99() {
        due("0", comesTo("0"), 0);
        due("00", comesTo("00"), 0);
        due("09", comesTo("09"), 9);
        due("9", comesTo("9"), 9);
        due("10", comesTo("10"), 10);
        due("99", comesTo("99"), 99);
    }

    static void promise12_fiftyBytesComeToTheirNumber() {
        due("50 bytes", comesTo("1+1+1+1+1+1+1+1+1+1+1+1+1+1+1+1+1+1+1+1+1+1+1+1+99"), 123);
    }

    static void promise12_asLowAsAnErrorIsNoError() {
        EveningOrder x = liked(3, "-99*99*99-99*99*3-99*3-2", sound(1000));
        due(BEYOND, x, "worthBy", 0, 0, 0);
        due(0, x, "told", 1);
    }

    // ---- promise 13: tired

    static void promise13_noSuchSheet() {
        asksForASheet("tired", 0, 0);
        asksForASheet("tired", 8, 0);
    }

    static void promise13_missingSheet() {
        asksWhetherItIsMissing("tired", 0, 0);
        asksWhetherItIsMissing("tired", 0, -1);
    }

    static void promise13_noRow() {
        asksForARow("tired", 0, 0);
        asksForARow("tired", 0, -1);
    }

    static void promise13_theIntervalCannotStandThere() {
        asksWhereTheIntervalStands("tired", 0, 0);
        asksWhereTheIntervalStands("tired", 0, 9);
    }

    static void promise13_noSuchPlayer() {
        for (long player : new long[] {-1, 8, MIN, MAX}) {
            refused(BEYOND, Checks::full, "tired", 0, 0, player, 0);
        }
    }

    static void promise13_playerIsAskedAheadOfNoneAndKind() {
        refused(BEYOND, Checks::full, "tired", 3, 0, 8, 0);
        refused(BEYOND, Checks::full, "tired", 0, -1, 8, 0);
    }

    static void promise13_noSuchPlace() {
        for (long place : new long[] {-1, 5, MIN, MAX}) {
            refused(BEYOND, Checks::full, "tired", 0, 0, 0, place);
        }
        due(BEYOND, twelve(), "tired", 0, 0, 0, 12);
    }

    private static EveningOrder tiring(int[]... pieces) {
        return liked(4, "", pieces);
    }

    static void promise13_firstAndLastPlayer() {
        EveningOrder x = tiring(new int[] {1000, 129, 0, 40});
        due(40, x, "tired", 0, 0, 0, 0);
        due(40, x, "tired", 0, 0, 7, 0);
        due(0, x, "tired", 0, 0, 1, 0);
        due(0, x, "tired", 0, 0, 6, 0);
    }

    static void promise13_firstAndLastPlace() {
        EveningOrder x = twelve();
        due(0, x, "tired", 0, 0, 0, 0);
        due(0, x, "tired", 0, 0, 0, 11);
        due(BEYOND, x, "tired", 0, 0, 0, 12);
    }

    static void promise13_0AtFirst() {
        EveningOrder x = tiring(new int[] {60000, 1, 0, 40}, new int[] {1000, 2, 0, 0});
        due(40, x, "tired", 0, 0, 0, 0);
        due(0, x, "tired", 0, 0, 1, 0);
        due(0, x, "tired", 0, 0, 1, 1);
    }

    static void promise13_effortComesBehindThePiece() {
        // no minute of a PIECE with the PLAYER mends, however long it is
        EveningOrder x = tiring(new int[] {60000, 1, 0, 99}, new int[] {60000, 1, 0, 99});
        due(99, x, "tired", 0, 0, 0, 0);
        due(198, x, "tired", 0, 0, 0, 1);
    }

    static void promise13_effort0() {
        EveningOrder x = tiring(new int[] {5000, 1, 0, 0}, new int[] {5000, 1, 0, 4}, new int[] {5000, 1, 0, 0});
        due(0, x, "tired", 0, 0, 0, 0);
        due(4, x, "tired", 0, 0, 0, 2);
    }

    static void promise13_mendingEndsAt0() {
        int[][] minutes = {{9, 1}, {10, 0}, {11, 0}, {60, 0}};
        for (int[] m : minutes) {
            EveningOrder x = tiring(new int[] {1000, 1, 0, 10}, new int[] {1000 * m[0], 2, 0, 0},
                new int[] {1000, 1, 0, 5});
            due(m[1], x, "tired", 0, 0, 0, 1);
            due(m[1] + 5, x, "tired", 0, 0, 0, 2);
        }
    }

    static void promise13_mend0AndMend9() {
        EveningOrder x = tiring(new int[] {1000, 1, 0, 99}, new int[] {11000, 2, 0, 0});
        x.rule(1, 0);
        due(99, x, "tired", 0, 0, 0, 1);
        x.rule(1, 9);
        due(0, x, "tired", 0, 0, 0, 1);
        x.rule(1, 8);
        due(11, x, "tired", 0, 0, 0, 1);
    }

    static void promise13_minutesOfChangesMend() {
        EveningOrder x = tiring(new int[] {1000, 1, 255, 99}, new int[] {1000, 1, 0, 0});
        due(91, x, "tired", 0, 0, 0, 1);
        x.rule(0, 9);
        due(99 - 72, x, "tired", 0, 0, 0, 1);
        x.rule(0, 0);
        due(99, x, "tired", 0, 0, 0, 1);
    }

    static void promise13_minutesOfTheIntervalMend() {
        EveningOrder x = tiring(new int[] {1000, 1, 255, 99}, new int[] {1000, 1, 0, 0});
        due(79, x, "tired", 0, 1, 0, 1);
        x.rule(2, 60);
        due(39, x, "tired", 0, 1, 0, 1);
        x.rule(2, 0);
        due(99, x, "tired", 0, 1, 0, 1);
    }

    static void promise13_asTiredAsCanBe() {
        EveningOrder x = new EveningOrder();
        for (int i = 0; i < 12; i++) {
            x.piece(60000, 255, 0, 99);
        }
        row(x, 0, 0, 1, 2, 3, 4, 5, 6, 7, 8, 9, 10, 11);
        due(12 * 99, x, "tired", 0, 0, 7, 11);
    }

    // ---- promise 14: judge

    static void promise14_noSuchSheet() {
        asksForASheet("judge", 0);
        asksForASheet("judge", 5);
    }

    static void promise14_missingSheet() {
        asksWhetherItIsMissing("judge", 0);
    }

    static void promise14_noRow() {
        asksForARow("judge", 4);
    }

    static void promise14_theIntervalCannotStandThere() {
        asksWhereTheIntervalStands("judge", 3);
    }

    static void promise14_noSuchWhat() {
        for (long what : new long[] {-1, 5, MIN, MAX}) {
            refused(BEYOND, Checks::full, "judge", 0, 0, what);
        }
    }

    static void promise14_whatIsAskedAheadOfNoneAndKind() {
        refused(BEYOND, Checks::full, "judge", 3, 0, 5);
        refused(BEYOND, Checks::full, "judge", 0, -1, 5);
    }

    static void promise14_aRowOfOne() {
        EveningOrder x = liked(4, "", new int[] {60000, 255, 255, 99});
        long[] is = {60, 0, 99, 0, 1};
        for (int what = 0; what < 5; what++) {
            due(is[what], x, "judge", 0, 0, what);
        }
    }

    static void promise14_theLatestEnd() {
        EveningOrder x = new EveningOrder();
        for (int i = 0; i < 12; i++) {
            x.piece(60000, 0, i % 2 == 0 ? 255 : 0, 0);
        }
        row(x, 0, 0, 1, 2, 3, 4, 5, 6, 7, 8, 9, 10, 11);
        x.rule(0, 9);
        due(720 + 11 * 72, x, "judge", 0, 0, 0);
        due(88, x, "judge", 0, 0, 1);
        due(720 + 10 * 72 + 20, x, "judge", 0, 11, 0);
    }

    static void promise14_nothingCarriedTakesNoMinute() {
        EveningOrder x = liked(4, "", new int[] {3000, 0, 5, 0}, new int[] {4000, 0, 5, 0});
        x.rule(0, 9);
        due(7, x, "judge", 0, 0, 0);
        due(0, x, "judge", 0, 0, 1);
    }

    static void promise14_change0() {
        EveningOrder x = liked(4, "", new int[] {3000, 0, 5, 0}, new int[] {4000, 0, 0, 0});
        due(9, x, "judge", 0, 0, 0);
        x.rule(0, 0);
        due(7, x, "judge", 0, 0, 0);
        due(2, x, "judge", 0, 0, 1);
    }

    static void promise14_pauseWhateverIsCarried() {
        EveningOrder x = liked(4, "", new int[] {3000, 0, 255, 0}, new int[] {4000, 0, 0, 0});
        x.rule(0, 9);
        due(27, x, "judge", 0, 1, 0);
        x.rule(2, 0);
        due(7, x, "judge", 0, 1, 0);
        x.rule(2, 60);
        due(67, x, "judge", 0, 1, 0);
    }

    static void promise14_carriedAcrossTheIntervalToo() {
        EveningOrder x = liked(4, "", new int[] {3000, 0, 255, 0}, new int[] {4000, 0, 0, 0});
        due(8, x, "judge", 0, 0, 1);
        due(8, x, "judge", 0, 1, 1);
    }

    static void promise14_theGreatestTiredNeedNotBeTheLast() {
        EveningOrder x = tiring(new int[] {1000, 1, 0, 5}, new int[] {1000, 128, 0, 50}, new int[] {60000, 1, 0, 5});
        due(50, x, "judge", 0, 0, 2);
    }

    static void promise14_withoutPlayersNobodyIsTired() {
        EveningOrder x = twelve();
        x.rule(3, 0);
        due(0, x, "judge", 0, 0, 2);
        due(1, x, "judge", 0, 0, 4);
    }

    static void promise14_tiredJustAtTheLimitIsGood() {
        EveningOrder x = tiring(new int[] {1000, 1, 0, 50});
        x.rule(3, 50);
        due(1, x, "judge", 0, 0, 4);
    }

    static void promise14_tiredOneAboveTheLimitIsNotGood() {
        EveningOrder x = tiring(new int[] {1000, 1, 0, 50});
        x.rule(3, 49);
        due(0, x, "judge", 0, 0, 4);
        due(0, x, "judge", 0, 0, 3);
    }

    static void promise14_limit0() {
        EveningOrder x = tiring(new int[] {1000, 1, 0, 0});
        x.rule(3, 0);
        due(1, x, "judge", 0, 0, 4);
        EveningOrder y = tiring(new int[] {1000, 1, 0, 1});
        y.rule(3, 0);
        due(0, y, "judge", 0, 0, 4);
    }

    static void promise14_tooTiredBehindAnEarlierPiece() {
        EveningOrder x = tiring(new int[] {1000, 1, 0, 50}, new int[] {60000, 2, 0, 0});
        x.rule(3, 49);
        due(0, x, "judge", 0, 0, 4);
        due(0, x, "tired", 0, 0, 0, 1);
    }

    static void promise14_tooTiredAboveTheGreatestLimit() {
        EveningOrder x = new EveningOrder();
        for (int i = 0; i < 12; i++) {
            x.piece(60000, 255, 0, i < 1 ? 9 : 90);
        }
        row(x, 0, 0, 1, 2, 3, 4, 5, 6, 7, 8, 9, 10, 11);
        due(999, x, "judge", 0, 0, 2);
        due(1, x, "judge", 0, 0, 4);
        EveningOrder y = new EveningOrder();
        for (int i = 0; i < 12; i++) {
            y.piece(60000, 255, 0, i < 1 ? 10 : 90);
        }
        row(y, 0, 0, 1, 2, 3, 4, 5, 6, 7, 8, 9, 10, 11);
        due(1000, y, "judge", 0, 0, 2);
        due(0, y, "judge", 0, 0, 4);
    }

    static void promise14_goodNeedsAllMustsKept() {
        EveningOrder x = three();
        x.must(3, 100, 0);
        due(1, x, "judge", 0, 0, 4);
        x.must(3, 1, 0);
        due(0, x, "judge", 0, 0, 4);
        due(2, x, "judge", 0, 0, 3);
    }

    static void promise14_tenMustsBroken() {
        EveningOrder x = three();
        for (int i = 0; i < 10; i++) {
            x.must(3, 1, 0);
        }
        due(1023, x, "judge", 0, 0, 3);
    }

    /** One MUST alone: whether the ROW of PIECES of one minute each, numbered from 0 on, breaks it. */
    private static void broken(int is, int sort, int a, int b, int m, int many, int interval) {
        EveningOrder x = plainPieces(4);
        x.rule(2, 10);
        x.must(sort, 100 * a + b, m);
        int[] numbers = new int[many];
        for (int i = 0; i < many; i++) {
            numbers[i] = i;
        }
        row(x, 0, numbers);
        String what = "MUST " + sort + " of " + a + ", " + b + ", " + m + " in a ROW of " + many + ", " + interval;
        due(what, x.judge(0, interval, 3), is);
        due(what + ", GOOD", x.judge(0, interval, 4), 1 - is);
    }

    static void promise14_sort0RightBehind() {
        broken(1, 0, 1, 0, 0, 4, 0);
        broken(1, 0, 3, 2, 0, 4, 0);
        broken(0, 0, 0, 1, 0, 4, 0);
        broken(0, 0, 2, 0, 0, 4, 0);
        broken(0, 0, 0, 3, 0, 4, 0);
    }

    static void promise14_sort0AlsoAcrossTheInterval() {
        broken(1, 0, 1, 0, 0, 4, 1);
        broken(1, 0, 1, 0, 0, 2, 1);
    }

    static void promise14_sort1WhicheverIsFirst() {
        broken(0, 1, 0, 1, 0, 4, 0);
        broken(0, 1, 1, 0, 0, 4, 0);
        broken(0, 1, 3, 2, 0, 4, 1);
        broken(1, 1, 0, 2, 0, 4, 0);
        broken(1, 1, 2, 0, 0, 4, 0);
        broken(1, 1, 0, 3, 0, 4, 0);
    }

    static void promise14_sort1NotAcrossTheInterval() {
        broken(1, 1, 0, 1, 0, 4, 1);
        broken(1, 1, 1, 0, 0, 4, 1);
        broken(1, 1, 1, 0, 0, 2, 1);
        broken(0, 1, 1, 0, 0, 4, 2);
    }

    static void promise14_sort2EndsJustAtTheMinute() {
        broken(0, 2, 0, 1, 1, 4, 0);
        broken(0, 2, 3, 1, 4, 4, 0);
        broken(0, 2, 3, 1, 14, 4, 3);
        broken(0, 2, 3, 1, 999, 4, 3);
    }

    static void promise14_sort2EndsAMinuteLater() {
        broken(1, 2, 0, 1, 0, 4, 0);
        broken(1, 2, 3, 1, 3, 4, 0);
        broken(1, 2, 3, 1, 13, 4, 3);
    }

    static void promise14_sort2AtMinute999() {
        EveningOrder x = new EveningOrder();
        for (int i = 0; i < 12; i++) {
            x.piece(60000, 0, i % 2, 0);
        }
        x.rule(0, 9);
        x.rule(2, 60);
        // 720 minutes, ten CHANGES of 9 and a PAUSE of 60
        row(x, 0, 0, 1, 2, 3, 4, 5, 6, 7, 8, 9, 10, 11);
        x.must(2, 1100, 870);
        x.must(2, 1100, 869);
        x.must(2, 1100, 999);
        due(2, x, "judge", 0, 1, 3);
        EveningOrder y = new EveningOrder();
        for (int i = 0; i < 12; i++) {
            y.piece(60000, 0, i % 2 == 0 ? 7 : 0, 0);
        }
        y.rule(0, 9);
        row(y, 0, 0, 1, 2, 3, 4, 5, 6, 7, 8, 9, 10, 11);
        y.must(2, 1100, 999);
        due(720 + 11 * 27, y, "judge", 0, 0, 0);
        due(1, y, "judge", 0, 0, 3);
    }

    static void promise14_sort3First() {
        broken(1, 3, 0, 1, 0, 4, 0);
        broken(1, 3, 0, 3, 0, 1, 0);
        broken(0, 3, 1, 0, 0, 4, 0);
        broken(0, 3, 1, 0, 0, 4, 1);
    }

    static void promise14_sort4Last() {
        broken(1, 4, 3, 1, 0, 4, 0);
        broken(1, 4, 0, 3, 0, 1, 0);
        broken(0, 4, 2, 0, 0, 4, 0);
        broken(0, 4, 2, 0, 0, 4, 3);
    }

    static void promise14_sort5Ahead() {
        broken(0, 5, 0, 1, 0, 4, 0);
        broken(0, 5, 0, 3, 0, 4, 2);
        broken(1, 5, 1, 0, 0, 4, 0);
        broken(1, 5, 3, 0, 0, 4, 2);
    }

    static void promise14_sort6RightBehindTheInterval() {
        broken(1, 6, 1, 0, 0, 4, 1);
        broken(1, 6, 3, 0, 0, 4, 3);
        broken(0, 6, 1, 0, 0, 4, 2);
        broken(0, 6, 3, 0, 0, 4, 2);
        broken(0, 6, 0, 1, 0, 4, 1);
    }

    static void promise14_sort6WithoutAnInterval() {
        broken(0, 6, 0, 1, 0, 4, 0);
        broken(0, 6, 0, 1, 0, 1, 0);
    }

    static void promise14_sort7AheadOfTheInterval() {
        broken(0, 7, 0, 1, 0, 4, 1);
        broken(0, 7, 2, 1, 0, 4, 3);
        broken(1, 7, 1, 0, 0, 4, 1);
        broken(1, 7, 3, 0, 0, 4, 3);
        broken(1, 7, 3, 0, 0, 4, 1);
    }

    static void promise14_sort7WithoutAnInterval() {
        broken(0, 7, 0, 1, 0, 4, 0);
        broken(0, 7, 3, 1, 0, 4, 0);
    }

    static void promise14_mustsWithoutTheirFirstPieceAreKept() {
        for (int sort = 0; sort < 8; sort++) {
            broken(0, sort, 3, 0, 0, 3, 1);
        }
    }

    static void promise14_mustsOfTwoWithoutTheirSecondAreKept() {
        broken(0, 0, 0, 3, 0, 3, 1);
        broken(0, 1, 0, 3, 0, 3, 1);
        broken(0, 5, 0, 3, 0, 3, 1);
    }

    static void promise14_mustsOfOneDoNotNeedTheirSecond() {
        broken(1, 2, 2, 3, 12, 3, 2);
        broken(1, 3, 0, 3, 0, 3, 2);
        broken(1, 4, 2, 3, 0, 3, 2);
        broken(1, 6, 2, 3, 0, 3, 2);
        broken(1, 7, 2, 3, 0, 3, 2);
    }

    // ---- promise 15: begins

    static void promise15_noSuchSheet() {
        asksForASheet("begins", 0);
        asksForASheet("begins", -1);
    }

    static void promise15_missingSheet() {
        asksWhetherItIsMissing("begins", 0);
        asksWhetherItIsMissing("begins", -1);
    }

    static void promise15_noRow() {
        asksForARow("begins", 0);
        asksForARow("begins", 99);
    }

    static void promise15_theIntervalCannotStandThere() {
        asksWhereTheIntervalStands("begins", 0);
        asksWhereTheIntervalStands("begins", -1);
    }

    static void promise15_noSuchPlace() {
        for (long place : new long[] {-1, 5, MIN, MAX}) {
            refused(BEYOND, Checks::full, "begins", 0, 0, place);
        }
        due(BEYOND, twelve(), "begins", 0, 0, 12);
        due(BEYOND, weighing(), "begins", 0, 0, 1);
    }

    static void promise15_aRowBeginsAtMinute0() {
        due(0, weighing(), "begins", 0, 0, 0);
        due(0, twelve(), "begins", 0, 1, 0);
    }

    static void promise15_theLastOfTwelve() {
        due(11, twelve(), "begins", 0, 0, 11);
        due(10 + 1 + 20, twelve(), "begins", 0, 11, 11);
        due(10, twelve(), "begins", 0, 11, 10);
    }

    static void promise15_rightBehindTheInterval() {
        EveningOrder x = three();
        due(30, x, "begins", 0, 1, 1);
        x.rule(2, 0);
        due(10, x, "begins", 0, 1, 1);
    }

    static void promise15_rightBehindAChange() {
        EveningOrder x = three();
        x.rule(0, 9);
        due(19, x, "begins", 0, 0, 1);
        due(19 + 5 + 27, x, "begins", 0, 0, 2);
        x.rule(0, 0);
        due(10, x, "begins", 0, 0, 1);
        due(15, x, "begins", 0, 0, 2);
    }
}
