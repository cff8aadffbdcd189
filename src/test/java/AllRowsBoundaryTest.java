/** A test of its own for each sentence that names a boundary case of promises 16 to 24. */
public final class AllRowsBoundaryTest extends Checks {
    public static void main(String[] args) {
        runAll(AllRowsBoundaryTest.class, 16, 24);
    }

    /** plainPieces, and LIKING 0 of PLACE with a TEXT. */
    private static EveningOrder placed(int pieces, String text) {
        EveningOrder x = plainPieces(pieces);
        x.liking(3, 1, 1);
        due("text " + text, text(x, 0, text) >= 0 ? 1 : 0, 1);
        return x;
    }

    /** Two PIECES of which neither may be first: no ROW with both of them is GOOD. */
    private static EveningOrder barred() {
        EveningOrder x = plainPieces(3);
        x.must(3, 1, 0);
        x.must(3, 100, 0);
        row(x, 0, 0, 1, 2);
        return x;
    }

    private static void bestIs(EveningOrder x, int set, int interval, int... pieces) {
        due(interval, x, "best", set, -1);
        for (int i = 0; i < pieces.length; i++) {
            due(pieces[i], x, "best", set, i);
        }
        due(NONE, x, "best", set, pieces.length);
    }

    // ---- promise 16: best

    static void promise16_bitsOfNoPieces() {
        asksForPieces("best", 0);
        refused(BEYOND, Checks::full, "best", 32, 0);
        refused(BEYOND, Checks::full, "best", MIN, -1);
    }

    static void promise16_whatBelowMinus1() {
        refused(BEYOND, Checks::full, "best", 31, -2);
        due(BEYOND, full(), "best", 31, MIN);
    }

    static void promise16_beyondIsAskedAheadOfKind() {
        refused(BEYOND, Checks::full, "best", 0, -2);
        due(BEYOND, plainPieces(7), "best", 127, -2);
    }

    static void promise16_noneOrMoreThanSix() {
        asksHowMany("best", 6, 0);
        refused(KIND, Checks::full, "best", 0, 0);
    }

    static void promise16_kindIsAskedAheadOfNone() {
        due(KIND, full(), "best", 0, 99);
        due(KIND, plainPieces(7), "best", 127, 7);
    }

    static void promise16_sixArePermitted() {
        bestIs(plainPieces(6), 63, 0, 0, 1, 2, 3, 4, 5);
        bestIs(plainPieces(12), 63 << 6, 0, 6, 7, 8, 9, 10, 11);
    }

    static void promise16_one() {
        bestIs(plainPieces(12), 1, 0, 0);
        bestIs(plainPieces(12), 1 << 11, 0, 11);
    }

    static void promise16_asManyPlacesAsPieces() {
        EveningOrder x = plainPieces(3);
        due(2, x, "best", 7, 2);
        due(NONE, x, "best", 7, 3);
        due(NONE, x, "best", 7, MAX);
        refused(NONE, Checks::full, "best", 3, 2);
    }

    static void promise16_noRowIsGood() {
        for (int what = -1; what < 3; what++) {
            refused(NONE, AllRowsBoundaryTest::barred, "best", 3, what);
        }
    }

    static void promise16_noRowIsGoodAsAllAreTooTired() {
        EveningOrder x = three();
        x.rule(3, 9);
        due(NONE, x, "best", 1, -1);
        x.rule(3, 10);
        due(0, x, "best", 1, 0);
    }

    static void promise16_ofSeveralTheFirstByNumbers() {
        bestIs(plainPieces(4), 0b1111, 0, 0, 1, 2, 3);
        bestIs(plainPieces(12), 0b100000100100, 0, 2, 5, 11);
    }

    static void promise16_numbersComeAheadOfTheInterval() {
        // 0, 1 with THE INTERVAL between them is as good as 1, 0 without one
        bestIs(placed(2, "(p=0)*((l+i)=1)"), 3, 1, 0, 1);
        due(2, placed(2, "(p=0)*((l+i)=1)"), "equals", 3, 1);
    }

    static void promise16_firstNumbersComeAheadOfLaterOnes() {
        // 0, 2, 1 is as good as 1, 0, 2
        bestIs(placed(3, "(p=1)*(l=2)+(p=0)*(l=1)-(p=2)*(l=0)*9"), 7, 0, 0, 2, 1);
    }

    static void promise16_theIntervalFrom0On() {
        // behind 1 and behind 2 are as good, behind 0 and 3 are less
        bestIs(placed(4, "(p=2)*j+(p=1)*j"), 15, 1, 0, 1, 2, 3);
    }

    static void promise16_theLastRowMayBeTheBest() {
        bestIs(placed(3, "(0-p)*l*5+i*(p=1)"), 7, 2, 2, 1, 0);
    }

    static void promise16_worthBelow0IsStillMost() {
        bestIs(placed(2, "-9-p*l"), 3, 0, 1, 0);
    }

    static void promise16_onlyGoodOnes() {
        EveningOrder x = placed(2, "(p=0)*l");
        bestIs(x, 3, 0, 1, 0);
        x.must(3, 100, 0);
        bestIs(x, 3, 0, 0, 1);
    }

    static void promise16_mustsOfOthersAreKept() {
        EveningOrder x = plainPieces(4);
        x.must(1, 3, 0);
        x.must(5, 300, 0);
        x.must(3, 302, 0);
        bestIs(x, 7, 0, 0, 1, 2);
    }

    static void promise16_ofThePiecesOfNow() {
        EveningOrder x = plainPieces(1);
        bestIs(x, 1, 0, 0);
        due(BEYOND, x, "best", 2, 0);
        x.piece(1000, 0, 0, 0);
        bestIs(x, 2, 0, 1);
        bestIs(x, 1, 0, 0);
    }

    static void promise16_ofTheLikingsOfNow() {
        EveningOrder x = three();
        bestIs(x, 7, 0, 0, 1, 2);
        x.liking(2, 1, 1);
        bestIs(x, 7, 1, 0, 1, 2);
        x.turn(0, false);
        bestIs(x, 7, 0, 0, 1, 2);
        x.turn(0, true);
        bestIs(x, 7, 1, 0, 1, 2);
        text(x, 0, "-m");
        bestIs(x, 7, 0, 0, 2, 1);
    }

    static void promise16_ofTheRulesOfNow() {
        EveningOrder x = three();
        x.liking(2, 1, 1);
        bestIs(x, 7, 1, 0, 1, 2);
        x.rule(2, 0);
        bestIs(x, 7, 0, 0, 1, 2);
        x.rule(3, 9);
        due(NONE, x, "best", 7, -1);
    }

    static void promise16_ofTheMustsOfNow() {
        EveningOrder x = plainPieces(2);
        bestIs(x, 3, 0, 0, 1);
        x.must(3, 1, 0);
        bestIs(x, 3, 0, 1, 0);
        x.must(3, 100, 0);
        due(NONE, x, "best", 3, -1);
    }

    static void promise16_ofWhatIsRestored() {
        EveningOrder x = plainPieces(2);
        x.image();
        x.must(3, 1, 0);
        bestIs(x, 3, 0, 1, 0);
        x.restore();
        bestIs(x, 3, 0, 0, 1);
    }

    static void promise16_notWhatOthersWentThrough() {
        EveningOrder x = placed(3, "p*(2-l)");
        row(x, 0, 0, 1, 2);
        bestIs(x, 6, 0, 2, 1);
        due(1, x, "ill", 0, 0, 0, 0);
        bestIs(x, 6, 0, 2, 1);
        due(2, x, "better", 0, 0);
        due(STATE, x, "bars", 3);
        bestIs(x, 6, 0, 2, 1);
    }

    // ---- promise 17: most

    static void promise17_bitsOfNoPieces() {
        asksForPieces("most", 0);
        refused(BEYOND, Checks::full, "most", 32, 0);
    }

    static void promise17_noSuchPart() {
        for (long part : new long[] {-1, 2, MIN, MAX}) {
            refused(BEYOND, Checks::full, "most", 31, part);
        }
    }

    static void promise17_beyondIsAskedAheadOfKind() {
        refused(BEYOND, Checks::full, "most", 0, 2);
        due(BEYOND, plainPieces(7), "most", 127, -1);
    }

    static void promise17_noneOrMoreThanSix() {
        asksHowMany("most", 6, 0);
        asksHowMany("most", 6, 1);
        refused(KIND, Checks::full, "most", 0, 1);
    }

    static void promise17_noRowIsGood() {
        refused(NONE, AllRowsBoundaryTest::barred, "most", 3, 0);
        refused(NONE, AllRowsBoundaryTest::barred, "most", 3, 1);
    }

    static void promise17_withoutLikings0By1() {
        due(0, plainPieces(6), "most", 63, 0);
        due(1, plainPieces(6), "most", 63, 1);
    }

    static void promise17_leastTerms() {
        EveningOrder x = plainPieces(2);
        x.liking(3, -6, 9);
        text(x, 0, "p*l+1");
        due(-4, x, "most", 3, 0);
        due(3, x, "most", 3, 1);
    }

    static void promise17_moreThanAnIntHolds() {
        EveningOrder x = plainPieces(1);
        x.liking(3, -9, 1);
        text(x, 0, "32*32*32*32*32*32*2");
        due(9 * (1L << 31), x, "most", 1, 0);
        due(1, x, "most", 1, 1);
    }

    static void promise17_asLowAsAnErrorIsNoError() {
        EveningOrder x = placed(1, "-99*99*99-99*99*3-99*3-3");
        due(-1000002, x, "most", 1, 0);
        due(0, x, "told", 2);
    }

    // ---- promise 18: equals

    private static void equalsIs(EveningOrder x, int set, int good, int equal, int fixed) {
        due(good, x, "equals", set, 0);
        due(equal, x, "equals", set, 1);
        due(fixed, x, "equals", set, 2);
    }

    static void promise18_bitsOfNoPieces() {
        asksForPieces("equals", 0);
        refused(BEYOND, Checks::full, "equals", 32, 0);
    }

    static void promise18_noSuchWhat() {
        for (long what : new long[] {-1, 3, MIN, MAX}) {
            refused(BEYOND, Checks::full, "equals", 31, what);
        }
    }

    static void promise18_beyondIsAskedAheadOfKind() {
        refused(BEYOND, Checks::full, "equals", 0, 3);
        due(BEYOND, plainPieces(7), "equals", 127, -1);
    }

    static void promise18_noneOrMoreThanSix() {
        asksHowMany("equals", 6, 0);
        asksHowMany("equals", 6, 2);
        refused(KIND, Checks::full, "equals", 0, 1);
    }

    static void promise18_one() {
        equalsIs(plainPieces(12), 1 << 11, 1, 1, 1 << 11);
    }

    static void promise18_allRowsOfSix() {
        equalsIs(plainPieces(6), 63, 720 * 6, 720 * 6, 0);
    }

    static void promise18_noRowIsGood() {
        equalsIs(barred(), 3, 0, 0, 0);
    }

    static void promise18_noRowIsGoodBehindASetThatHasSome() {
        EveningOrder x = barred();
        equalsIs(x, 5, 2, 2, 5);
        equalsIs(x, 3, 0, 0, 0);
        equalsIs(x, 4, 1, 1, 4);
    }

    static void promise18_theBestAlone() {
        equalsIs(placed(3, "(0-p)*l+(p=1)*i"), 7, 18, 1, 7);
    }

    static void promise18_fixedWhereverTheIntervalStands() {
        equalsIs(placed(3, "p*l"), 7, 18, 3, 7);
    }

    static void promise18_someAreFixed() {
        equalsIs(placed(3, "(p=1)*(l=2)"), 7, 18, 6, 4);
    }

    static void promise18_onlyGoodOnesAreCounted() {
        EveningOrder x = placed(3, "(p=0)*l");
        x.must(3, 200, 0);
        equalsIs(x, 7, 12, 6, 2);
    }

    // ---- promise 19: bars

    static void promise19_bitsOfNoPieces() {
        asksForPieces("bars");
        refused(BEYOND, Checks::full, "bars", 32);
    }

    static void promise19_noneOrMoreThanSix() {
        asksHowMany("bars", 6);
        refused(KIND, Checks::full, "bars", 0);
    }

    static void promise19_aRowIsGood() {
        refused(STATE, AllRowsBoundaryTest::barred, "bars", 5);
        due(STATE, plainPieces(6), "bars", 63);
        due(STATE, plainPieces(1), "bars", 1);
    }

    static void promise19_oneGoodRowOfMany() {
        EveningOrder x = plainPieces(6);
        for (int i = 0; i < 5; i++) {
            x.must(1, 100 * i + i + 1, 0);
        }
        x.must(3, 501, 0);
        due(STATE, x, "bars", 63);
        x.must(4, 500, 0);
        due(0, x, "equals", 63, 0);
    }

    static void promise19_allAreTooTired() {
        EveningOrder x = three();
        x.rule(3, 9);
        due(0, x, "bars", 1);
        due(0, x, "bars", 7);
    }

    static void promise19_allAreTooTiredWithMusts() {
        EveningOrder x = three();
        x.rule(3, 9);
        x.must(3, 1, 0);
        due(0, x, "bars", 1);
    }

    static void promise19_oneOfOne() {
        EveningOrder x = plainPieces(1);
        x.piece(1000, 0, 0, 0);
        x.must(4, 1, 0);
        due(1, x, "bars", 1);
    }

    static void promise19_eachOfSixIsNeeded() {
        EveningOrder x = plainPieces(6);
        for (int i = 0; i < 6; i++) {
            x.must(3, 100 * i + (i + 1) % 6, 0);
        }
        due(63, x, "bars", 63);
    }

    static void promise19_theFewestRatherThanTheLeastBits() {
        EveningOrder x = barred();
        x.must(2, 1, 0);
        due(4, x, "bars", 3);
    }

    static void promise19_ofSeveralTheLeastBits() {
        EveningOrder x = plainPieces(2);
        for (int i = 0; i < 4; i++) {
            x.must(3, 1, 0);
        }
        x.must(3, 100, 0);
        x.must(3, 100, 0);
        due(1 + 16, x, "bars", 3);
    }

    static void promise19_theTenthMustAlone() {
        EveningOrder x = plainPieces(2);
        for (int i = 0; i < 9; i++) {
            x.must(3, 1, 0);
        }
        x.must(2, 1, 0);
        due(512, x, "bars", 3);
        due(1, x, "bars", 1);
    }

    static void promise19_onlyRowsInWhichNobodyIsTooTired() {
        EveningOrder x = new EveningOrder();
        x.piece(1000, 1, 0, 10);
        x.piece(20000, 2, 0, 0);
        x.piece(1000, 1, 0, 10);
        x.rule(3, 10);
        x.rule(2, 0);
        // 0 and 2 need 1 between them: 1 isn't in the middle bars these, though 1 is elsewhere in others
        x.must(0, 100, 0);
        x.must(0, 102, 0);
        x.must(3, 1, 0);
        x.must(3, 201, 0);
        due(3, x, "bars", 7);
        x.rule(3, 999);
        due(STATE, x, "bars", 7);
    }

    static void promise19_allPlacesOfTheIntervalAreGoneThrough() {
        EveningOrder x = plainPieces(2);
        x.must(1, 1, 0);
        x.must(5, 1, 0);
        x.must(5, 100, 0);
        // without THE INTERVAL they are NEIGHBOURS, so that the first alone doesn't bar
        due(6, x, "bars", 3);
    }

    // ---- promise 20: fewest

    private static EveningOrder withThings(int... things) {
        EveningOrder x = new EveningOrder();
        for (int t : things) {
            x.piece(1000, 255, t, 99);
        }
        return x;
    }

    private static void fewestIs(EveningOrder x, int set, int carried, int... order) {
        due(carried, x, "fewest", set, -1);
        for (int i = 0; i < order.length; i++) {
            due(order[i], x, "fewest", set, i);
        }
        due(NONE, x, "fewest", set, order.length);
    }

    static void promise20_bitsOfNoPieces() {
        asksForPieces("fewest", 0);
        refused(BEYOND, Checks::full, "fewest", 32, 0);
    }

    static void promise20_whatBelowMinus1() {
        refused(BEYOND, Checks::full, "fewest", 31, -2);
        due(BEYOND, full(), "fewest", 31, MIN);
    }

    static void promise20_beyondIsAskedAheadOfKind() {
        refused(BEYOND, Checks::full, "fewest", 0, -2);
        due(BEYOND, plainPieces(11), "fewest", 2047, -2);
    }

    static void promise20_noneOrMoreThanTen() {
        asksHowMany("fewest", 10, 0);
        asksHowMany("fewest", 10, -1);
        refused(KIND, Checks::full, "fewest", 0, 0);
    }

    static void promise20_kindIsAskedAheadOfNone() {
        due(KIND, full(), "fewest", 0, 99);
        due(KIND, plainPieces(11), "fewest", 2047, 11);
    }

    static void promise20_tenArePermitted() {
        fewestIs(plainPieces(12), 1023, 0, 0, 1, 2, 3, 4, 5, 6, 7, 8, 9);
        fewestIs(plainPieces(12), 1023 << 2, 0, 2, 3, 4, 5, 6, 7, 8, 9, 10, 11);
        fewestIs(withThings(255, 0, 255, 0, 255, 0, 255, 0, 255, 0), 1023, 8, 0, 2, 4, 6, 8, 1, 3, 5, 7, 9);
    }

    static void promise20_one() {
        fewestIs(withThings(255), 1, 0, 0);
        fewestIs(plainPieces(12), 1 << 11, 0, 11);
    }

    static void promise20_asManyPlacesAsPieces() {
        due(1, withThings(255, 0), "fewest", 3, 1);
        refused(NONE, Checks::full, "fewest", 3, 2);
        refused(NONE, Checks::full, "fewest", 3, MAX);
    }

    static void promise20_ofSeveralTheFirst() {
        fewestIs(withThings(3, 1, 2, 0), 15, 3, 0, 1, 3, 2);
        fewestIs(withThings(0, 1, 2, 3), 15, 3, 0, 1, 3, 2);
        fewestIs(withThings(1, 0, 3), 7, 2, 1, 0, 2);
    }

    static void promise20_theFirstPieceMayBeLast() {
        fewestIs(withThings(7, 3, 1, 0), 15, 3, 0, 1, 2, 3);
        fewestIs(withThings(1, 7, 0, 3), 15, 3, 1, 3, 0, 2);
    }

    static void promise20_eachLaterOneMayBeginBetter() {
        fewestIs(withThings(3, 1, 0, 31), 15, 5, 2, 1, 0, 3);
    }

    static void promise20_anotherSetAndTheFirstAgain() {
        EveningOrder x = withThings(0, 1, 3, 7);
        fewestIs(x, 15, 3, 0, 1, 2, 3);
        fewestIs(x, 10, 2, 1, 3);
        fewestIs(x, 1, 0, 0);
        fewestIs(x, 15, 3, 0, 1, 2, 3);
    }

    static void promise20_ofThePiecesOfNow() {
        EveningOrder x = withThings(0);
        x.image();
        x.piece(1000, 0, 1, 0);
        fewestIs(x, 3, 1, 0, 1);
        x.restore();
        due(BEYOND, x, "fewest", 3, -1);
        x.piece(1000, 0, 255, 0);
        fewestIs(x, 3, 8, 0, 1);
    }

    static void promise20_bothHaveOrNeitherHasIsNotCarried() {
        fewestIs(withThings(170, 85), 3, 8, 0, 1);
        fewestIs(withThings(170, 170), 3, 0, 0, 1);
    }

    static void promise20_mustsAndTheLimitDoNotMatter() {
        EveningOrder x = withThings(0, 0);
        x.must(3, 1, 0);
        x.must(3, 100, 0);
        x.rule(3, 0);
        fewestIs(x, 3, 0, 0, 1);
    }

    // ---- promise 21: better

    static void promise21_noSuchSheet() {
        asksForASheet("better");
    }

    static void promise21_missingSheet() {
        asksWhetherItIsMissing("better");
    }

    static void promise21_noRow() {
        asksForARow("better");
    }

    static void promise21_theIntervalCannotStandThere() {
        asksWhereTheIntervalStands("better");
    }

    static void promise21_aRowOfOneHasNoChange() {
        EveningOrder x = placed(1, "p");
        row(x, 0, 0);
        due(STATE, x, "better", 0, 0);
    }

    static void promise21_noneIsWorthMore() {
        EveningOrder x = placed(3, "p*l");
        row(x, 0, 0, 1, 2);
        due(STATE, x, "better", 0, 0);
        due(1, x, "told", 3);
    }

    static void promise21_asMuchIsNotMore() {
        refused(STATE, AllRowsBoundaryTest::barred, "better", 0, 0);
        EveningOrder x = placed(3, "7");
        row(x, 0, 2, 1, 0);
        due(STATE, x, "better", 0, 0);
    }

    static void promise21_aNinthMoreIsMore() {
        EveningOrder x = plainPieces(2);
        x.liking(3, 1, 9);
        text(x, 0, "p*l");
        row(x, 0, 1, 0);
        due(1, x, "better", 0, 0);
    }

    static void promise21_a2520thMoreIsMore() {
        EveningOrder x = plainPieces(2);
        int[][] weights = {{1, 9}, {3, 8}, {-2, 7}, {-1, 5}};
        for (int i = 0; i < 4; i++) {
            x.liking(3, weights[i][0], weights[i][1]);
            text(x, i, "p*l");
        }
        row(x, 0, 0, 1);
        due(1, x, "worth", 0, 0, 0);
        due(2520, x, "worth", 0, 0, 1);
        row(x, 0, 1, 0);
        due(1, x, "better", 0, 0);
    }

    static void promise21_placesOfTheRowAlone() {
        EveningOrder x = placed(5, "p*l");
        row(x, 0, 0, 1, 2, 3, 4);
        due(STATE, x, "better", 0, 0);
        row(x, 0, 0, 1, 2);
        due(STATE, x, "better", 0, 0);
    }

    static void promise21_iIsLessThanJ() {
        EveningOrder x = placed(3, "(p=1)*(l=0)-(p=0)*(l=1)*5");
        row(x, 0, 0, 1, 2);
        due(STATE, x, "better", 0, 0);
    }

    static void promise21_noneThatIsWorthMoreIsGood() {
        EveningOrder x = placed(2, "p*l");
        row(x, 0, 1, 0);
        x.must(3, 1, 0);
        due(STATE, x, "better", 0, 0);
    }

    static void promise21_theRowItselfNeedNotBeGood() {
        EveningOrder x = placed(2, "p*l");
        row(x, 0, 1, 0);
        x.must(3, 100, 0);
        due(0, x, "judge", 0, 0, 4);
        due(1, x, "better", 0, 0);
    }

    static void promise21_aRowThatIsNotGoodNeedsMoreToo() {
        EveningOrder x = plainPieces(2);
        row(x, 0, 1, 0);
        x.must(3, 100, 0);
        due(STATE, x, "better", 0, 0);
    }

    static void promise21_notToOneThatIsTooTired() {
        EveningOrder x = new EveningOrder();
        x.piece(1001, 1, 0, 10);
        x.piece(20000, 0, 0, 0);
        x.piece(1000, 1, 0, 10);
        x.rule(3, 10);
        row(x, 0, 0, 1, 2);
        x.liking(3, 1, 1);
        text(x, 0, "(p=1)*l");
        due(STATE, x, "better", 0, 0);
        x.rule(3, 20);
        due(1, x, "better", 0, 0);
    }

    static void promise21_ofSeveralTheFirstByI() {
        EveningOrder x = placed(4, "(l=3)*(p<3)");
        row(x, 0, 0, 1, 2, 3);
        due(3, x, "better", 0, 0);
        EveningOrder y = placed(4, "(p=1)*(l=0)+(p=3)*(l=2)");
        row(y, 0, 0, 1, 2, 3);
        due(1, y, "better", 0, 0);
    }

    static void promise21_thenByJ() {
        EveningOrder x = placed(4, "(l=0)*(0<p)");
        row(x, 0, 0, 1, 2, 3);
        due(1, x, "better", 0, 0);
    }

    static void promise21_aLaterOneThatIsWorthMore() {
        EveningOrder x = placed(4, "(l=0)*(0<p)+(p=3)*(l=2)*5");
        row(x, 0, 0, 1, 2, 3);
        due(203, x, "better", 0, 0);
    }

    static void promise21_theIntervalStays() {
        EveningOrder x = placed(3, "i*l*(p=1)");
        row(x, 0, 0, 1, 2);
        due(102, x, "better", 0, 2);
        due(STATE, x, "better", 0, 0);
        due(STATE, x, "better", 0, 1);
    }

    static void promise21_firstAndLastOfTwelve() {
        EveningOrder x = placed(12, "(p=0)*(l=1)*p+(p=11)*(l=9)");
        row(x, 0, 9, 1, 2, 3, 4, 5, 6, 7, 8, 0, 10, 11);
        due(11, x, "better", 0, 0);
        row(x, 0, 1, 0, 2, 3, 4, 5, 6, 7, 8, 10, 9, 11);
        due(1011, x, "better", 0, 11);
    }

    static void promise21_changesNothing() {
        EveningOrder x = placed(3, "p*l");
        row(x, 0, 2, 1, 0);
        due(2, x, "better", 0, 0);
        due(2, x, "get", 0, 0);
        due(2, x, "better", 0, 0);
    }

    // ---- promise 22: slides

    static void promise22_noSuchSheet() {
        asksForASheet("slides", 1);
        asksForASheet("slides", 0);
    }

    static void promise22_missingSheet() {
        asksWhetherItIsMissing("slides", 1);
    }

    static void promise22_noRow() {
        asksForARow("slides", 1);
    }

    static void promise22_theIntervalCannotStandThere() {
        asksWhereTheIntervalStands("slides", 1);
    }

    static void promise22_n0And21AreBeyond() {
        for (long n : new long[] {-1, 0, 21, MIN, MAX}) {
            refused(BEYOND, Checks::full, "slides", 0, 0, n);
        }
    }

    static void promise22_nIsAskedAheadOfNoneAndKind() {
        refused(BEYOND, Checks::full, "slides", 3, 0, 0);
        refused(BEYOND, Checks::full, "slides", 0, -1, 21);
    }

    private static EveningOrder downwards() {
        EveningOrder x = placed(5, "p*l");
        row(x, 0, 4, 3, 2, 1, 0);
        return x;
    }

    private static void onSheet(EveningOrder x, int... pieces) {
        for (int i = 0; i < pieces.length; i++) {
            due(pieces[i], x, "get", 0, i);
        }
    }

    static void promise22_once() {
        EveningOrder x = downwards();
        due(1, x, "slides", 0, 0, 1);
        onSheet(x, 0, 3, 2, 1, 4);
    }

    static void promise22_justAsOftenAsThereIsOne() {
        EveningOrder x = downwards();
        due(2, x, "slides", 0, 0, 2);
        onSheet(x, 0, 1, 2, 3, 4);
    }

    static void promise22_tillThereIsNone() {
        EveningOrder x = downwards();
        due(2, x, "slides", 0, 0, 20);
        onSheet(x, 0, 1, 2, 3, 4);
        due(0, x, "told", 3);
    }

    static void promise22_thereIsNoneAtFirst() {
        EveningOrder x = placed(3, "p*l");
        row(x, 0, 0, 1, 2);
        due(0, x, "slides", 0, 0, 20);
        onSheet(x, 0, 1, 2);
        due(0, x, "told", 3);
    }

    static void promise22_aRowOfOne() {
        EveningOrder x = placed(1, "p");
        row(x, 0, 0);
        due(0, x, "slides", 0, 0, 1);
        onSheet(x, 0);
    }

    static void promise22_aRowOfTwelve() {
        EveningOrder x = plainPieces(9);
        for (int i = 9; i < 12; i++) {
            x.piece(1009, 0, 0, 0);
        }
        x.liking(3, 1, 1);
        text(x, 0, "p*l");
        row(x, 0, 11, 10, 9, 8, 7, 6, 5, 4, 3, 2, 1, 0);
        due(6, x, "slides", 0, 0, 20);
        for (int i = 0; i < 9; i++) {
            due(i, x, "get", 0, i);
        }
    }

    static void promise22_sheetsOfAllBits() {
        for (int bits = 8; bits <= 32; bits *= 2) {
            EveningOrder x = placed(2, "p*l");
            x.sheet(0, bits, 2);
            x.put(0, 0, 1);
            due(1, x, "slides", 0, 0, 20);
            onSheet(x, 0, 1);
        }
    }

    static void promise22_otherSheetsStay() {
        EveningOrder x = downwards();
        row(x, 1, 4, 3, 2, 1, 0);
        x.slides(0, 0, 20);
        due(4, x, "get", 1, 0);
        due(0, x, "get", 1, 4);
    }

    static void promise22_fromOneThatIsNotGoodToOneThatIs() {
        EveningOrder x = placed(3, "p*l");
        row(x, 0, 2, 1, 0);
        x.must(3, 201, 0);
        due(1, x, "slides", 0, 0, 20);
        onSheet(x, 0, 1, 2);
    }

    // ---- promise 23: ill

    /** PIECES from 0 on on SHEET 0. */
    private static EveningOrder inOrder(int many) {
        EveningOrder x = plainPieces(12);
        int[] numbers = new int[many];
        for (int i = 0; i < many; i++) {
            numbers[i] = i;
        }
        row(x, 0, numbers);
        return x;
    }

    private static void illIs(EveningOrder x, int interval, int out, int pairs, int stands, int... pieces) {
        due(pairs, x, "ill", 0, interval, out, -1);
        due(stands, x, "ill", 0, interval, out, -2);
        for (int i = 0; i < pieces.length; i++) {
            due(pieces[i], x, "ill", 0, interval, out, i);
        }
        due(NONE, x, "ill", 0, interval, out, pieces.length);
    }

    static void promise23_noSuchSheet() {
        asksForASheet("ill", 0, 0);
        asksForASheet("ill", 0, -3);
    }

    static void promise23_missingSheet() {
        asksWhetherItIsMissing("ill", 0, 0);
        asksWhetherItIsMissing("ill", -1, 0);
    }

    static void promise23_noRow() {
        asksForARow("ill", 0, 0);
        asksForARow("ill", -1, 0);
    }

    static void promise23_theIntervalCannotStandThere() {
        asksWhereTheIntervalStands("ill", 0, 0);
        asksWhereTheIntervalStands("ill", 99, 99);
    }

    static void promise23_whatBelowMinus2() {
        refused(BEYOND, Checks::full, "ill", 0, 0, 0, -3);
        due(BEYOND, full(), "ill", 0, 0, 0, MIN);
    }

    static void promise23_whatIsAskedAheadOfNoneAndKind() {
        refused(BEYOND, Checks::full, "ill", 3, 0, 0, -3);
        refused(BEYOND, Checks::full, "ill", 0, -1, 0, -3);
    }

    static void promise23_aRowOfOneIsKind() {
        due(KIND, inOrder(1), "ill", 0, 0, 0, 0);
        due(KIND, inOrder(1), "ill", 0, 0, 9, 0);
    }

    static void promise23_aRowOfTwo() {
        illIs(inOrder(2), 0, 0, 0, 0, 1);
        illIs(inOrder(2), 0, 1, 0, 0, 0);
    }

    static void promise23_aRowOfSeven() {
        illIs(inOrder(7), 0, 0, 0, 0, 1, 2, 3, 4, 5, 6);
        illIs(inOrder(7), 6, 6, 0, 0, 0, 1, 2, 3, 4, 5);
        illIs(inOrder(7), 6, 5, 0, 5, 0, 1, 2, 3, 4, 6);
    }

    static void promise23_aRowOfEightIsKind() {
        due(KIND, inOrder(8), "ill", 0, 0, 0, 0);
        due(KIND, inOrder(12), "ill", 0, 0, 0, 0);
        due(KIND, inOrder(8), "ill", 0, 0, 9, 0);
    }

    static void promise23_noPlaceOut() {
        for (long out : new long[] {-1, 5, MIN, MAX}) {
            refused(BEYOND, Checks::full, "ill", 0, 0, out, 0);
        }
        due(BEYOND, inOrder(7), "ill", 0, 0, 7, 0);
        due(BEYOND, inOrder(2), "ill", 0, 0, 2, 0);
    }

    static void promise23_placeOutIsAskedAheadOfNone() {
        due(BEYOND, inOrder(3), "ill", 0, 0, 3, 9);
        due(BEYOND, barred(), "ill", 0, 0, 3, 0);
    }

    static void promise23_asManyPlacesAsAreLeft() {
        due(2, inOrder(3), "ill", 0, 0, 0, 1);
        due(NONE, inOrder(3), "ill", 0, 0, 0, 2);
        due(NONE, inOrder(3), "ill", 0, 0, 0, MAX);
    }

    static void promise23_thereIsNoSuchRow() {
        for (long what = -2; what < 2; what++) {
            refused(NONE, AllRowsBoundaryTest::barred, "ill", 0, 0, 2, what);
        }
    }

    static void promise23_theRowItselfNeedNotBeGood() {
        EveningOrder x = inOrder(3);
        x.must(3, 1, 0);
        illIs(x, 0, 0, 0, 0, 1, 2);
    }

    static void promise23_theIntervalNowhere() {
        for (int out = 0; out < 4; out++) {
            due(0, inOrder(4), "ill", 0, 0, out, -2);
        }
    }

    static void promise23_noneWouldStandAheadOfTheInterval() {
        illIs(inOrder(4), 1, 0, 0, 0, 1, 2, 3);
        illIs(inOrder(2), 1, 0, 0, 0, 1);
    }

    static void promise23_noneWouldStandBehindTheInterval() {
        illIs(inOrder(4), 3, 3, 0, 0, 0, 1, 2);
        illIs(inOrder(2), 1, 1, 0, 0, 0);
    }

    static void promise23_theOneThatIsOutIsNotCounted() {
        illIs(inOrder(4), 2, 0, 0, 1, 1, 2, 3);
        illIs(inOrder(4), 2, 1, 0, 1, 0, 2, 3);
        illIs(inOrder(4), 2, 2, 0, 2, 0, 1, 3);
        illIs(inOrder(4), 3, 2, 0, 2, 0, 1, 3);
        illIs(inOrder(4), 1, 3, 0, 1, 0, 1, 2);
    }

    static void promise23_theIntervalCountsForWhatIsGood() {
        EveningOrder x = inOrder(3);
        x.must(6, 200, 0);
        // without 0 THE INTERVAL stands nowhere, without 1 right ahead of 2
        illIs(x, 1, 0, 0, 0, 1, 2);
        illIs(x, 1, 1, 1, 1, 2, 0);
    }

    static void promise23_asManyPairsAsThereAre() {
        EveningOrder x = inOrder(3);
        x.must(5, 201, 0);
        x.must(5, 100, 0);
        illIs(x, 0, 2, 1, 0, 1, 0);
        EveningOrder y = inOrder(7);
        for (int i = 0; i < 6; i++) {
            y.must(5, 100 * (i + 1) + i, 0);
        }
        illIs(y, 0, 6, 15, 0, 5, 4, 3, 2, 1, 0);
    }

    static void promise23_fewestPairsComeAheadOfWorth() {
        EveningOrder x = placed(4, "p*(3-l)");
        row(x, 0, 0, 1, 2, 3);
        illIs(x, 0, 3, 0, 0, 0, 1, 2);
    }

    static void promise23_ofAsFewPairsWhatIsWorthMost() {
        EveningOrder x = placed(4, "(p=2)*(l=1)");
        row(x, 0, 0, 1, 2, 3);
        x.must(0, 100, 0);
        // 1, 0, 2 comes ahead of 0, 2, 1 by nothing but what it is worth
        illIs(x, 0, 3, 1, 0, 0, 2, 1);
        text(x, 0, "(p=0)*(l=1)");
        illIs(x, 0, 3, 1, 0, 1, 0, 2);
    }

    static void promise23_ofAsFewPairsWhatIsWorthMostBelow0() {
        EveningOrder x = placed(4, "-9+(p=0)*l-p*(l=1)");
        row(x, 0, 0, 1, 2, 3);
        x.must(0, 100, 0);
        // 0, 2, 1 is worth -29, 1, 0, 2 is worth -26
        illIs(x, 0, 3, 1, 0, 1, 0, 2);
    }

    static void promise23_worthOfFewerPairsComesInPlaceOfMore() {
        EveningOrder x = placed(5, "(p=0)*l*9+(p=1)*(l=3)*5");
        row(x, 0, 3, 1, 0, 2, 4);
        x.must(5, 3, 0);
        x.must(5, 103, 0);
        // 0 and 1 come ahead of 3: 1, 0, 3, 2 alone has as few as two pairs
        illIs(x, 0, 4, 2, 0, 1, 0, 3, 2);
    }

    static void promise23_thenTheFirst() {
        EveningOrder x = inOrder(4);
        x.must(0, 100, 0);
        illIs(x, 0, 3, 1, 0, 0, 2, 1);
        EveningOrder y = plainPieces(4);
        row(y, 0, 3, 2, 1, 0);
        y.must(0, 203, 0);
        // 2, 3, 1 and 3, 1, 2
        illIs(y, 0, 3, 1, 0, 2, 3, 1);
    }

    // ---- promise 24: two

    private static EveningOrder evenings(int... sounds) {
        EveningOrder x = new EveningOrder();
        for (int s : sounds) {
            x.piece(s, 0, x.count(0) % 2 == 0 ? 255 : 0, 0);
        }
        return x;
    }

    static void promise24_minutes1To999() {
        due(0, new EveningOrder(), "two", 1);
        due(0, new EveningOrder(), "two", 999);
        for (long minutes : new long[] {-1, 0, 1000, MIN, MAX}) {
            refused(BEYOND, Checks::full, "two", minutes);
        }
    }

    static void promise24_withoutPieces() {
        due(0, new EveningOrder(), "two", 5);
    }

    static void promise24_justSoManyMinutes() {
        due(0, evenings(30000), "two", 30);
        due(1, evenings(30000, 30000), "two", 30);
        due(1, evenings(1000, 1000), "two", 1);
    }

    static void promise24_aMinuteTooFew() {
        due(NONE, evenings(30000), "two", 29);
        due(NONE, evenings(30000, 30000), "two", 29);
        refused(NONE, Checks::full, "two", 29);
        due(NONE, evenings(60000, 1000, 1000), "two", 59);
    }

    static void promise24_eachEveningNotBothTogether() {
        due(NONE, evenings(10000, 10000, 10000), "two", 19);
        due(1, evenings(10000, 10000, 10000), "two", 20);
        due(0, evenings(10000, 10000, 10000), "two", 30);
    }

    static void promise24_noChangesCount() {
        EveningOrder x = evenings(10001, 10000, 10000, 10001);
        x.rule(0, 9);
        x.rule(2, 60);
        due(3, x, "two", 20);
    }

    static void promise24_loudDifferLeast() {
        due(5, evenings(1005, 1004, 1002, 1003), "two", 999);
        due(1, evenings(1009, 1002, 1003), "two", 999);
    }

    static void promise24_whicheverEveningIsLouder() {
        due(1, evenings(1001, 1002), "two", 999);
        due(1, evenings(1002, 1001), "two", 999);
        due(5, evenings(1002, 1002, 1001, 1001), "two", 999);
    }

    static void promise24_lessApartButTooLong() {
        // 1 against 0 and 2 differ by 0, 0 and 1 against 2 by 8
        due(0b010, evenings(30004, 10009, 30005), "two", 60);
        due(0b011, evenings(30004, 10009, 30005), "two", 59);
    }

    static void promise24_ofSeveralTheLeastBits() {
        due(3, evenings(1001, 1001, 1001, 1001), "two", 2);
        due(0, evenings(1000, 1000, 1000), "two", 3);
    }

    static void promise24_theOtherWayRoundHasMoreBits() {
        due(7, evenings(1001, 1001, 1001, 1003), "two", 999);
        due(7, evenings(1001, 1001, 1001, 1003, 1000), "two", 3);
    }

    static void promise24_twelvePieces() {
        int[] sounds = new int[12];
        for (int i = 0; i < 12; i++) {
            sounds[i] = 60009;
        }
        due(63, evenings(sounds), "two", 360);
        due(NONE, evenings(sounds), "two", 359);
        due(63, evenings(sounds), "two", 999);
    }
}
