/** A test of its own for each sentence that names a boundary case of promises 1 to 10. */
public final class PiecesBoundaryTest extends Checks {
    public static void main(String[] args) {
        runAll(PiecesBoundaryTest.class, 1, 10);
    }

    private static EveningOrder twelve() {
        return plainPieces(12);
    }

    private static EveningOrder tenLikings() {
        EveningOrder x = plainPieces(2);
        row(x, 0, 0, 1);
        for (int i = 0; i < 10; i++) {
            x.liking(i % 7, 1, 1);
        }
        return x;
    }

    private static EveningOrder tenMusts() {
        EveningOrder x = plainPieces(2);
        row(x, 0, 0, 1);
        for (int i = 0; i < 10; i++) {
            x.must(3, i % 2 == 0 ? 1 : 100, 0);
        }
        return x;
    }

    /** THE TAPE has 48 bytes, all a; LIKING 0 is of the KIND NEXT. */
    private static EveningOrder longTape() {
        EveningOrder x = new EveningOrder();
        x.liking(1, 1, 1);
        for (int i = 0; i < 48; i++) {
            x.feed('a', 1);
        }
        return x;
    }

    // ---- promise 1: a new object

    static void promise01_nothingIsCounted() {
        EveningOrder x = new EveningOrder();
        for (int what = 0; what < 8; what++) {
            due(0, x, "count", what);
        }
    }

    static void promise01_noErrorIsCounted() {
        EveningOrder x = new EveningOrder();
        for (int k = 1; k <= 6; k++) {
            due(0, x, "told", k);
        }
    }

    static void promise01_rulesAtFirst() {
        EveningOrder x = new EveningOrder();
        due(1, x, "rule", 0, 0);
        due(1, x, "rule", 1, 0);
        due(20, x, "rule", 2, 0);
        due(999, x, "rule", 3, 0);
    }

    static void promise01_sheetsAreMissingAtFirst() {
        for (int sheet = 0; sheet < 4; sheet++) {
            due(NONE, new EveningOrder(), "get", sheet, 0);
            due(NONE, new EveningOrder(), "worth", sheet, 0, 0);
        }
    }

    static void promise01_noImageAtFirst() {
        due(NONE, new EveningOrder(), "restore");
        due(1, new EveningOrder(), "image");
    }

    static void promise01_noTraceAtFirst() {
        due(NONE, new EveningOrder(), "trace", 0);
    }

    static void promise01_noPiece() {
        due(BEYOND, new EveningOrder(), "pieceIs", 0, 0);
        due(BEYOND, new EveningOrder(), "must", 3, 1, 0);
    }

    static void promise01_noLiking() {
        EveningOrder x = new EveningOrder();
        due(BEYOND, x, "turn", 0, 0);
        due(BEYOND, x, "as", 0, 0);
        due(BEYOND, x, "text", 0);
        due(BEYOND, x, "voice", 0, 0, 0);
    }

    static void promise01_noSetOfPieces() {
        EveningOrder x = new EveningOrder();
        due(BEYOND, x, "best", 1, 0);
        due(KIND, x, "best", 0, 0);
        due(BEYOND, x, "most", 1, 0);
        due(BEYOND, x, "equals", 1, 0);
        due(BEYOND, x, "bars", 1);
        due(BEYOND, x, "fewest", 1, 0);
        due(BEYOND, x, "check", 1);
    }

    static void promise01_zerosAreNoRowWithoutPieces() {
        EveningOrder x = new EveningOrder();
        x.sheet(0, 8, 1);
        due(KIND, x, "worth", 0, 0, 0);
        due(KIND, x, "past", 0, 0, 0);
    }

    static void promise01_objectsShareNothing() {
        EveningOrder x = full();
        EveningOrder y = new EveningOrder();
        y.rule(0, 9);
        same("another one", x, full());
        due(0, y, "count", 0);
        due(NONE, y, "restore");
    }

    static void promise01_the512thCallStillAnswers() {
        EveningOrder x = new EveningOrder();
        for (int i = 1; i < 511; i++) {
            x.rule(3, i);
        }
        due(510, x, "rule", 3, 7);
        due(7, x, "rule", 3, 8);
    }

    // ---- promise 2: piece

    static void promise02_leastSound() {
        EveningOrder x = new EveningOrder();
        due(0, x, "piece", 1000, 0, 0, 0);
        for (int what = 0; what < 6; what++) {
            due(what == 0 ? 1 : 0, x, "pieceIs", 0, what);
        }
    }

    static void promise02_greatestSound() {
        EveningOrder x = new EveningOrder();
        due(0, x, "piece", 60119, 255, 255, 99);
        long[] is = {60, 11, 9, 255, 255, 99};
        for (int what = 0; what < 6; what++) {
            due(is[what], x, "pieceIs", 0, what);
        }
    }

    static void promise02_minutes0AreTooFew() {
        refused(BEYOND, Checks::full, "piece", 0, 0, 0, 0);
        refused(BEYOND, Checks::full, "piece", 119, 0, 0, 0);
        refused(BEYOND, Checks::full, "piece", 999, 0, 0, 0);
    }

    static void promise02_minutes61AreTooMany() {
        refused(BEYOND, Checks::full, "piece", 61000, 0, 0, 0);
        due(BEYOND, new EveningOrder(), "piece", 100000, 0, 0, 0);
        due(BEYOND, new EveningOrder(), "piece", MAX, 0, 0, 0);
    }

    static void promise02_minutes60AreNotTooMany() {
        due(0, new EveningOrder(), "piece", 60000, 0, 0, 0);
    }

    static void promise02_key12IsTooHigh() {
        refused(BEYOND, Checks::full, "piece", 1120, 0, 0, 0);
        due(BEYOND, new EveningOrder(), "piece", 60120, 0, 0, 0);
        due(BEYOND, new EveningOrder(), "piece", 1999, 0, 0, 0);
    }

    static void promise02_key11Loud9() {
        EveningOrder x = new EveningOrder();
        due(0, x, "piece", 1119, 0, 0, 0);
        due(11, x, "pieceIs", 0, 1);
        due(9, x, "pieceIs", 0, 2);
    }

    static void promise02_soundBelow0() {
        refused(BEYOND, Checks::full, "piece", -1, 0, 0, 0);
        due(BEYOND, new EveningOrder(), "piece", -1000, 0, 0, 0);
        due(BEYOND, new EveningOrder(), "piece", -60119, 0, 0, 0);
        due(BEYOND, new EveningOrder(), "piece", MIN, 0, 0, 0);
    }

    static void promise02_playersOf0To7() {
        due(0, new EveningOrder(), "piece", 1000, 0, 0, 0);
        due(0, new EveningOrder(), "piece", 1000, 255, 0, 0);
        refused(BEYOND, Checks::full, "piece", 1000, -1, 0, 0);
        refused(BEYOND, Checks::full, "piece", 1000, 256, 0, 0);
        due(BEYOND, new EveningOrder(), "piece", 1000, MIN, 0, 0);
        due(BEYOND, new EveningOrder(), "piece", 1000, MAX, 0, 0);
    }

    static void promise02_thingsOf0To7() {
        due(0, new EveningOrder(), "piece", 1000, 0, 255, 0);
        refused(BEYOND, Checks::full, "piece", 1000, 0, -1, 0);
        refused(BEYOND, Checks::full, "piece", 1000, 0, 256, 0);
        due(BEYOND, new EveningOrder(), "piece", 1000, 0, MIN, 0);
        due(BEYOND, new EveningOrder(), "piece", 1000, 0, MAX, 0);
    }

    static void promise02_effort0To99() {
        due(0, new EveningOrder(), "piece", 1000, 0, 0, 0);
        due(0, new EveningOrder(), "piece", 1000, 0, 0, 99);
        refused(BEYOND, Checks::full, "piece", 1000, 0, 0, -1);
        refused(BEYOND, Checks::full, "piece", 1000, 0, 0, 100);
        due(BEYOND, new EveningOrder(), "piece", 1000, 0, 0, MIN);
        due(BEYOND, new EveningOrder(), "piece", 1000, 0, 0, MAX);
    }

    static void promise02_firstToTwelfthHaveTheirNumbers() {
        EveningOrder x = new EveningOrder();
        for (int i = 0; i < 12; i++) {
            due(i, x, "piece", 1000 * (i + 1), 0, 0, i);
        }
        due(12, x, "pieceIs", 11, 0);
        due(12, x, "count", 0);
    }

    static void promise02_thirteenthIsFull() {
        refused(FULL, PiecesBoundaryTest::twelve, "piece", 1000, 0, 0, 0);
    }

    static void promise02_beyondIsAskedAheadOfFull() {
        refused(BEYOND, PiecesBoundaryTest::twelve, "piece", 999, 0, 0, 0);
        refused(BEYOND, PiecesBoundaryTest::twelve, "piece", 1000, 0, 0, 100);
    }

    static void promise02_fullAgainAfterARefusedOne() {
        EveningOrder x = plainPieces(11);
        due(BEYOND, x, "piece", 0, 0, 0, 0);
        due(11, x, "piece", 1000, 0, 0, 0);
        due(FULL, x, "piece", 1000, 0, 0, 0);
        due(FULL, x, "piece", 1000, 0, 0, 0);
        due(2, x, "told", 4);
    }

    // ---- promise 3: pieceIs

    static void promise03_firstAndLastPiece() {
        EveningOrder x = full();
        due(12, x, "pieceIs", 0, 0);
        due(15, x, "pieceIs", 4, 0);
    }

    static void promise03_noSuchPiece() {
        refused(BEYOND, Checks::full, "pieceIs", -1, 0);
        refused(BEYOND, Checks::full, "pieceIs", 5, 0);
        due(BEYOND, full(), "pieceIs", MIN, 0);
        due(BEYOND, full(), "pieceIs", MAX, 0);
        due(BEYOND, plainPieces(12), "pieceIs", 12, 0);
    }

    static void promise03_whatFrom0To5() {
        EveningOrder x = full();
        long[] is = {15, 11, 3, 3, 6, 30};
        for (int what = 0; what < 6; what++) {
            due(is[what], x, "pieceIs", 4, what);
        }
    }

    static void promise03_noSuchWhat() {
        refused(BEYOND, Checks::full, "pieceIs", 0, -1);
        refused(BEYOND, Checks::full, "pieceIs", 0, 6);
        due(BEYOND, full(), "pieceIs", 0, MIN);
        due(BEYOND, full(), "pieceIs", 0, MAX);
    }

    // ---- promise 4: rule

    /** From 0 to the greatest, neither more nor less; each answer is what it was. */
    private static void bounds(int what, int atFirst, int greatest) {
        EveningOrder x = new EveningOrder();
        due(atFirst, x, "rule", what, 0);
        due(0, x, "rule", what, greatest);
        due(greatest, x, "rule", what, greatest);
        due(BEYOND, x, "rule", what, greatest + 1);
        due(BEYOND, x, "rule", what, -1);
        due(BEYOND, x, "rule", what, MIN);
        due(BEYOND, x, "rule", what, MAX);
        due(greatest, x, "rule", what, atFirst);
    }

    static void promise04_change0To9() {
        bounds(0, 1, 9);
    }

    static void promise04_mend0To9() {
        bounds(1, 1, 9);
    }

    static void promise04_pause0To60() {
        bounds(2, 20, 60);
    }

    static void promise04_limit0To999() {
        bounds(3, 999, 999);
    }

    static void promise04_noSuchRule() {
        refused(BEYOND, Checks::full, "rule", -1, 1);
        refused(BEYOND, Checks::full, "rule", 4, 1);
        due(BEYOND, full(), "rule", MIN, 1);
        due(BEYOND, full(), "rule", MAX, 1);
    }

    static void promise04_refusedRuleStaysAsItWas() {
        refused(BEYOND, Checks::full, "rule", 0, 10);
        refused(BEYOND, Checks::full, "rule", 1, 10);
        refused(BEYOND, Checks::full, "rule", 2, 61);
        refused(BEYOND, Checks::full, "rule", 3, 1000);
        refused(BEYOND, Checks::full, "rule", 3, -1);
    }

    static void promise04_oneRuleLeavesTheOthers() {
        EveningOrder x = new EveningOrder();
        x.rule(1, 7);
        due(1, x, "rule", 0, 2);
        due(20, x, "rule", 2, 3);
        due(999, x, "rule", 3, 4);
        due(7, x, "rule", 1, 5);
        due(2, x, "rule", 0, 0);
    }

    // ---- promise 5: liking

    static void promise05_kind0To6() {
        EveningOrder x = new EveningOrder();
        for (int kind = 0; kind < 7; kind++) {
            due(kind, x, "liking", kind, 1, 1);
        }
        refused(BEYOND, Checks::full, "liking", -1, 1, 1);
        refused(BEYOND, Checks::full, "liking", 7, 1, 1);
        due(BEYOND, x, "liking", MIN, 1, 1);
        due(BEYOND, x, "liking", MAX, 1, 1);
    }

    static void promise05_upFromMinus9To9() {
        EveningOrder x = new EveningOrder();
        due(0, x, "liking", 1, -9, 1);
        due(-899, x, "as", 0, 0);
        due(1, x, "liking", 1, 9, 1);
        due(901, x, "as", 1, 0);
        due(2, x, "liking", 1, 0, 1);
        due(1, x, "as", 2, 0);
        refused(BEYOND, Checks::full, "liking", 1, -10, 1);
        refused(BEYOND, Checks::full, "liking", 1, 10, 1);
        due(BEYOND, x, "liking", 1, MIN, 1);
        due(BEYOND, x, "liking", 1, MAX, 1);
    }

    static void promise05_down1To9() {
        EveningOrder x = new EveningOrder();
        due(0, x, "liking", 1, 1, 1);
        due(1, x, "liking", 1, 1, 9);
        due(109, x, "as", 1, 0);
        refused(BEYOND, Checks::full, "liking", 1, 1, 0);
        refused(BEYOND, Checks::full, "liking", 1, 1, 10);
        refused(BEYOND, Checks::full, "liking", 1, 1, -1);
        due(BEYOND, x, "liking", 1, 1, MIN);
        due(BEYOND, x, "liking", 1, 1, MAX);
    }

    static void promise05_tenthIsTheLast() {
        EveningOrder x = new EveningOrder();
        for (int i = 0; i < 10; i++) {
            due(i, x, "liking", 1, i - 5, 1);
        }
        due(401, x, "as", 9, 1);
    }

    static void promise05_eleventhIsFull() {
        refused(FULL, PiecesBoundaryTest::tenLikings, "liking", 1, 1, 1);
    }

    static void promise05_beyondIsAskedAheadOfFull() {
        refused(BEYOND, PiecesBoundaryTest::tenLikings, "liking", 7, 1, 1);
        refused(BEYOND, PiecesBoundaryTest::tenLikings, "liking", 1, 10, 1);
        refused(BEYOND, PiecesBoundaryTest::tenLikings, "liking", 1, 1, 0);
    }

    static void promise05_onAtFirst() {
        EveningOrder x = new EveningOrder();
        x.liking(1, 1, 1);
        due(1, x, "count", 2);
        due(0, x, "turn", 0, 1);
    }

    static void promise05_onAtFirstWhereOneWasOff() {
        EveningOrder x = new EveningOrder();
        x.image();
        x.liking(1, 1, 1);
        x.turn(0, false);
        x.restore();
        due(0, x, "liking", 1, 1, 1);
        due(1, x, "count", 2);
    }

    static void promise05_withoutTextAtFirstWhereOneHadOne() {
        EveningOrder x = plainPieces(1);
        row(x, 0, 0);
        x.image();
        x.liking(3, 1, 1);
        text(x, 0, "7");
        x.restore();
        x.liking(3, 1, 1);
        due(0, x, "worthBy", 0, 0, 0);
    }

    // ---- promise 6: turn

    static void promise06_newIs1AndAgainIs0() {
        EveningOrder x = new EveningOrder();
        x.liking(1, 1, 1);
        due(0, x, "turn", 0, 1);
        due(1, x, "turn", 0, 0);
        due(0, x, "turn", 0, 0);
        due(1, x, "turn", 0, 1);
        due(0, x, "turn", 0, 1);
    }

    static void promise06_firstAndLastLiking() {
        EveningOrder x = tenLikings();
        due(1, x, "turn", 0, 0);
        due(1, x, "turn", 9, 0);
        due(8, x, "count", 2);
        due(10, x, "count", 1);
    }

    static void promise06_noSuchLiking() {
        refused(BEYOND, Checks::full, "turn", -1, 0);
        refused(BEYOND, Checks::full, "turn", 7, 0);
        due(BEYOND, full(), "turn", MIN, 0);
        due(BEYOND, full(), "turn", MAX, 0);
        due(BEYOND, tenLikings(), "turn", 10, 0);
    }

    // ---- promise 7: as

    static void promise07_itsOwnKind() {
        EveningOrder x = full();
        for (int kind = 0; kind < 7; kind++) {
            due(100 * (kind - 3) + kind + 1, x, "as", kind, kind);
        }
    }

    static void promise07_theKindAbove() {
        EveningOrder x = full();
        for (int kind = 0; kind < 7; kind++) {
            due(100 * (kind - 3) + kind + 1, x, "as", kind, 0);
        }
        due(206, x, "as", 5, 1);
    }

    static void promise07_notTheKindBelow() {
        refused(KIND, Checks::full, "as", 1, 5);
        for (int kind = 1; kind < 7; kind++) {
            due(KIND, full(), "as", 0, kind);
        }
    }

    static void promise07_notOneBeside() {
        due(KIND, full(), "as", 1, 2);
        due(KIND, full(), "as", 2, 1);
        due(KIND, full(), "as", 5, 2);
        due(KIND, full(), "as", 5, 6);
        due(KIND, full(), "as", 6, 1);
        due(KIND, full(), "as", 6, 5);
    }

    static void promise07_fromTheLeastToTheGreatest() {
        EveningOrder x = new EveningOrder();
        x.liking(5, -9, 1);
        x.liking(5, 9, 9);
        due(-899, x, "as", 0, 1);
        due(909, x, "as", 1, 0);
    }

    static void promise07_offAsWell() {
        EveningOrder x = full();
        x.turn(4, false);
        due(105, x, "as", 4, 4);
    }

    static void promise07_noSuchLikingOrKind() {
        refused(BEYOND, Checks::full, "as", -1, 0);
        refused(BEYOND, Checks::full, "as", 7, 0);
        refused(BEYOND, Checks::full, "as", 0, -1);
        refused(BEYOND, Checks::full, "as", 0, 7);
        due(BEYOND, full(), "as", MIN, MIN);
        due(BEYOND, full(), "as", MAX, MAX);
    }

    // ---- promise 8: must

    static void promise08_sort0To7() {
        EveningOrder x = plainPieces(2);
        for (int sort = 0; sort < 8; sort++) {
            due(sort, x, "must", sort, 1, 0);
        }
        refused(BEYOND, Checks::full, "must", -1, 1, 0);
        refused(BEYOND, Checks::full, "must", 8, 1, 0);
        due(BEYOND, x, "must", MIN, 1, 0);
        due(BEYOND, x, "must", MAX, 1, 0);
    }

    static void promise08_firstAndLastPiece() {
        EveningOrder x = plainPieces(12);
        due(0, x, "must", 0, 11, 0);
        due(1, x, "must", 0, 1100, 0);
        due(2, x, "must", 0, 1110, 0);
    }

    static void promise08_noSuchPieceA() {
        refused(BEYOND, Checks::full, "must", 0, 500, 0);
        refused(BEYOND, Checks::full, "must", 3, 501, 0);
        due(BEYOND, plainPieces(12), "must", 0, 1200, 0);
        due(BEYOND, plainPieces(12), "must", 0, MAX, 0);
    }

    static void promise08_noSuchPieceB() {
        refused(BEYOND, Checks::full, "must", 0, 5, 0);
        refused(BEYOND, Checks::full, "must", 3, 105, 0);
        due(BEYOND, plainPieces(12), "must", 0, 12, 0);
        due(BEYOND, plainPieces(12), "must", 0, 99, 0);
    }

    static void promise08_pairBelow0() {
        refused(BEYOND, Checks::full, "must", 0, -1, 0);
        refused(BEYOND, Checks::full, "must", 0, -100, 0);
        due(BEYOND, full(), "must", 0, -101, 0);
        due(BEYOND, full(), "must", 0, MIN, 0);
    }

    static void promise08_bothAlike() {
        refused(BEYOND, Checks::full, "must", 0, 0, 0);
        refused(BEYOND, Checks::full, "must", 3, 101, 0);
        due(BEYOND, plainPieces(12), "must", 2, 1111, 0);
    }

    static void promise08_m0To999() {
        EveningOrder x = plainPieces(2);
        due(0, x, "must", 2, 1, 0);
        due(1, x, "must", 2, 1, 999);
        due(2, x, "must", 3, 1, 999);
        refused(BEYOND, Checks::full, "must", 2, 1, -1);
        refused(BEYOND, Checks::full, "must", 2, 1, 1000);
        refused(BEYOND, Checks::full, "must", 3, 1, 1000);
        due(BEYOND, x, "must", 2, 1, MIN);
        due(BEYOND, x, "must", 2, 1, MAX);
    }

    static void promise08_tenthIsTheLast() {
        EveningOrder x = plainPieces(2);
        for (int i = 0; i < 10; i++) {
            due(i, x, "must", 3, i % 2 == 0 ? 1 : 100, 0);
        }
        row(x, 0, 0, 1);
        due(0b0101010101, x, "judge", 0, 0, 3);
    }

    static void promise08_eleventhIsFull() {
        refused(FULL, PiecesBoundaryTest::tenMusts, "must", 0, 1, 0);
    }

    static void promise08_beyondIsAskedAheadOfFull() {
        refused(BEYOND, PiecesBoundaryTest::tenMusts, "must", 8, 1, 0);
        refused(BEYOND, PiecesBoundaryTest::tenMusts, "must", 0, 0, 0);
        refused(BEYOND, PiecesBoundaryTest::tenMusts, "must", 0, 2, 0);
        refused(BEYOND, PiecesBoundaryTest::tenMusts, "must", 0, 1, 1000);
    }

    static void promise08_onePieceIsNoPair() {
        due(BEYOND, plainPieces(1), "must", 3, 0, 0);
        due(BEYOND, plainPieces(1), "must", 3, 1, 0);
    }

    // ---- promise 9: feed

    static void promise09_oneByte() {
        EveningOrder x = new EveningOrder();
        x.liking(1, 1, 1);
        due(1, x, "feed", 'a', 1);
        due(0, x, "text", 0);
    }

    static void promise09_eightBytesTheLowestFirst() {
        EveningOrder x = new EveningOrder();
        x.liking(1, 1, 1);
        // the bytes of a+b-k*s?
        due(8, x, "feed", 0x3F732A6B2D622B61L, 8);
        due(-18, x, "text", 0);
        x.feed(0x3F732A6B2D622B61L, 7);
        due(3, x, "text", 0);
    }

    static void promise09_theHighestBitIsABytesOwn() {
        EveningOrder x = new EveningOrder();
        x.liking(1, 1, 1);
        // the bytes of a+a+a+a, then that of + with its highest bit
        due(8, x, "feed", 0xAB612B612B612B61L, 8);
        due(-17, x, "text", 0);
    }

    static void promise09_onlyTheLowestAreTaken() {
        EveningOrder x = new EveningOrder();
        x.liking(1, 1, 1);
        due(2, x, "feed", 0x7A7A7A7A7A7A6161L, 2);
        due(-11, x, "text", 0);
        due(1, x, "feed", 0x7A7A7A7A7A7A6161L, 1);
        due(0, x, "text", 0);
    }

    static void promise09_n0IsBeyond() {
        refused(BEYOND, Checks::full, "feed", 'l', 0);
        refused(BEYOND, Checks::full, "feed", 'l', -1);
        due(BEYOND, full(), "feed", 'l', MIN);
    }

    static void promise09_n9IsBeyond() {
        refused(BEYOND, Checks::full, "feed", 'l', 9);
        due(BEYOND, full(), "feed", 'l', MAX);
    }

    static void promise09_fiftyBytesAreTaken() {
        EveningOrder x = longTape();
        due(50, x, "feed", 'a', 2);
        due(50, x, "count", 5);
    }

    static void promise09_fiftyOneAreFullAndNoneIsTaken() {
        refused(FULL, PiecesBoundaryTest::longTape, "feed", 'a', 3);
        refused(FULL, PiecesBoundaryTest::longTape, "feed", 'a', 8);
    }

    static void promise09_oneMoreThanFifty() {
        EveningOrder x = longTape();
        x.feed('a', 2);
        due(FULL, x, "feed", 'a', 1);
        due(50, x, "count", 5);
    }

    static void promise09_beyondIsAskedAheadOfFull() {
        refused(BEYOND, PiecesBoundaryTest::longTape, "feed", 'a', 9);
        refused(BEYOND, PiecesBoundaryTest::longTape, "feed", 'a', 0);
    }

    static void promise09_anEmptiedTapeTakesFiftyAgain() {
        EveningOrder x = longTape();
        x.text(0);
        for (int i = 1; i <= 6; i++) {
            due(8 * i, x, "feed", 0, 8);
        }
        due(50, x, "feed", 0, 2);
        due(FULL, x, "feed", 0, 1);
    }

    // ---- promise 10: text

    private static void fault(int kind, String text, int place) {
        EveningOrder x = new EveningOrder();
        x.liking(kind, 1, 1);
        due("text " + text + " of KIND " + kind, text(x, 0, text), -10 - place);
    }

    private static void signs(int kind, String text, int many) {
        EveningOrder x = new EveningOrder();
        x.liking(kind, 1, 1);
        due("text " + text + " of KIND " + kind, text(x, 0, text), many);
    }

    static void promise10_anEmptyTapeEndsTooEarly() {
        fault(1, "", 0);
    }

    static void promise10_noSignIs0() {
        signs(1, "a", 0);
        signs(1, "0", 0);
        signs(1, "((((99))))", 0);
    }

    static void promise10_eachSignIsCounted() {
        signs(1, "a+b", 1);
        signs(1, "a-b", 1);
        signs(1, "a*b", 1);
        signs(1, "a/b", 1);
        signs(1, "a<b", 1);
        signs(1, "a=b", 1);
        signs(1, "a?b:k", 1);
        signs(1, "-a", 1);
        signs(1, "a--b", 2);
    }

    static void promise10_twentyFourSignsInFiftyBytes() {
        signs(1, "1+1+1+1+1+1+1+1+1+1+1+1+1+1+1+1+1+1+1+1+1+1+1+1+99", 24);
    }

    static void promise10_endsTooEarlyBehindASign() {
        fault(1, "a+", 2);
        fault(1, "a-", 2);
        fault(1, "a*", 2);
        fault(1, "a/", 2);
        fault(1, "a<", 2);
        fault(1, "a=", 2);
        fault(1, "-", 1);
        fault(1, "a--", 3);
    }

    static void promise10_endsTooEarlyWithinBraces() {
        fault(1, "(", 1);
        fault(1, "(a", 2);
        fault(1, "(a+", 3);
        fault(1, "((a)", 4);
    }

    static void promise10_endsTooEarlyWithinAChoice() {
        fault(1, "a?", 2);
        fault(1, "a?b", 3);
        fault(1, "a?b:", 4);
        fault(1, "a?b?k:s", 7);
        fault(1, "a?b:k?s", 7);
    }

    static void promise10_endsTooEarlyAtFiftyBytes() {
        fault(1, "1+1+1+1+1+1+1+1+1+1+1+1+1+1+1+1+1+1+1+1+1+1+1+1+1+", 50);
    }

    static void promise10_theFiftiethByteIsTheFault() {
        fault(1, "1+1+1+1+1+1+1+1+1+1+1+1+1+1+1+1+1+1+1+1+1+1+1+1+1x", 49);
    }

    static void promise10_theFirstByteIsTheFault() {
        fault(1, "+a", 0);
        fault(1, "*a", 0);
        fault(1, ")", 0);
        fault(1, "?a:b", 0);
        fault(1, ":", 0);
        fault(1, "<a", 0);
    }

    static void promise10_theFirstOfSeveralFaults() {
        fault(1, "a+x+y+z", 2);
        fault(1, "a)b)", 1);
    }

    static void promise10_oneDigitAndTwo() {
        signs(1, "0+9+00+99", 3);
    }

    static void promise10_theThirdDigitIsTheFault() {
        fault(1, "100", 2);
        fault(1, "000", 2);
        fault(1, "a+(123)", 5);
    }

    static void promise10_anotherOneBehindOneIsTheFault() {
        fault(1, "ab", 1);
        fault(1, "1a", 1);
        fault(1, "a1", 1);
        fault(1, "a(b)", 1);
        fault(1, "(a)b", 3);
        fault(1, "(a)(b)", 3);
    }

    static void promise10_noBlanks() {
        fault(1, " a", 0);
        fault(1, "a ", 1);
        fault(1, "a +b", 1);
        fault(1, "a+ b", 2);
    }

    static void promise10_bytesThatAreNoSigns() {
        fault(1, "" + (char) 0, 0);
        fault(1, "a" + (char) 0, 1);
        fault(1, "" + (char) 255, 0);
        fault(1, "" + (char) (128 + 'a'), 0);
        fault(1, "a" + (char) (128 + '+') + "a", 1);
        fault(1, "1" + (char) (128 + '1'), 1);
        fault(1, "A", 0);
        fault(1, "a>b", 1);
        fault(1, "a/*b", 2);
        fault(1, "1" + (char) ('0' - 1), 2);
        fault(1, "1" + (char) ('9' + 1), 1);
    }

    static void promise10_emptyBraces() {
        fault(1, "()", 1);
    }

    static void promise10_aBraceThatIsNotOpen() {
        fault(1, "a)", 1);
        fault(1, "(a))", 3);
        fault(1, "a?b)", 3);
    }

    static void promise10_aColonWithoutAChoice() {
        fault(1, "a:b", 1);
        fault(1, "(a:b)", 2);
        fault(1, "a?b:k:s", 5);
        fault(1, "a?(b:k)", 4);
    }

    static void promise10_aChoiceWithoutItsThird() {
        fault(1, "(a?b)", 4);
    }

    static void promise10_fiveMinusAreOpenAtOnce() {
        signs(1, "-----a", 5);
        fault(1, "------a", 5);
    }

    static void promise10_fiveBracesAreOpenAtOnce() {
        signs(1, "(((((a)))))", 0);
        fault(1, "((((((a))))))", 5);
    }

    static void promise10_fiveChoicesAreOpenAtOnce() {
        signs(1, "a?a?a?a?a?1:2:3:4:5:6", 5);
        fault(1, "a?a?a?a?a?a?1:2:3:4:5:6:7", 11);
    }

    static void promise10_fiveThirdsAreOpenAtOnce() {
        signs(1, "a?a:a?a:a?a:a?a:a?a:a", 5);
        fault(1, "a?a:a?a:a?a:a?a:a?a:a?a:a", 21);
    }

    static void promise10_fiveOfAllSortsAreOpenAtOnce() {
        signs(1, "-(-(a?b:k))", 3);
        fault(1, "-(-((a?b:k)))", 6);
        fault(1, "-(-(-(a)))", 5);
        fault(1, "-(-(a?-b:k))", 6);
        fault(1, "-(-(a?b:-k))", 8);
        fault(1, "-(-(a?(b):k))", 6);
        fault(1, "-(-(a?b:(k)))", 8);
    }

    static void promise10_aChoiceIsOpenTillItsThirdEnds() {
        signs(1, "a?((((b)))):k", 1);
        fault(1, "a?(((((b))))):k", 6);
        signs(1, "a?b:((((k))))", 1);
        fault(1, "a?b:(((((k)))))", 8);
    }

    static void promise10_aChoiceIsNotOpenAheadOfItsSign() {
        signs(1, "(((((a)))))?b:k", 1);
        signs(1, "-----a?b:k", 6);
    }

    static void promise10_aChoiceThatHasEndedIsNotOpen() {
        signs(1, "(a?b:k)+(((((s)))))", 2);
        signs(1, "(a?b:k)+-----s", 7);
    }

    static void promise10_aMinusIsOpenTillItsOneEnds() {
        signs(1, "-----a-----b", 10);
        fault(1, "-(((((a)))))", 5);
        signs(1, "-a+-a+-a+-a+-a+-a+-a", 13);
        signs(1, "-a?-b:-k", 4);
    }

    static void promise10_aMinusBetweenTwoIsNeverOpen() {
        signs(1, "(((((a-b-k-s-a-b-k)))))", 6);
    }

    static void promise10_braceThatHasEndedIsNotOpen() {
        signs(1, "((((a))))+((((b))))+(((((k)))))", 2);
    }

    static void promise10_namesOfEachKind() {
        signs(1, "a+b+k+s", 3);
        signs(5, "a+b+k+s", 3);
        signs(2, "m", 0);
        signs(3, "p+n+l+i+j", 4);
        signs(4, "t", 0);
    }

    static void promise10_otherNamesAreTheFaultAtThemselves() {
        String[] names = {"abks", "m", "pnlij", "t", "abks"};
        String all = "abcdefghijklmnopqrstuvwxyz";
        for (int kind = 1; kind <= 5; kind++) {
            for (int i = 0; i < all.length(); i++) {
                if (names[kind - 1].indexOf(all.charAt(i)) < 0) {
                    fault(kind, all.substring(i, i + 1), 0);
                    fault(kind, "1+" + all.charAt(i), 2);
                }
            }
        }
    }

    static void promise10_aFaultLeavesTheOneAhead() {
        EveningOrder x = three();
        x.liking(3, 1, 1);
        text(x, 0, "7");
        due("text 8+", text(x, 0, "8+"), -12);
        due(21, x, "worthBy", 0, 0, 0);
        due(-10, x, "text", 0);
        due(21, x, "worthBy", 0, 0, 0);
    }

    static void promise10_aFaultWithoutOneAheadLeavesNone() {
        EveningOrder x = three();
        x.liking(2, 1, 1);
        due("text 8+", text(x, 0, "8+"), -12);
        due(9, x, "worthBy", 0, 0, 0);
    }

    static void promise10_aFaultEmptiesTheTape() {
        EveningOrder x = new EveningOrder();
        x.liking(1, 1, 1);
        due("text a+", text(x, 0, "a+"), -12);
        due(0, x, "count", 5);
        due("text b", text(x, 0, "b"), 0);
    }

    static void promise10_aFaultIsNoError() {
        EveningOrder x = new EveningOrder();
        x.liking(1, 1, 1);
        x.text(0);
        for (int k = 1; k <= 6; k++) {
            due(0, x, "told", k);
        }
    }

    static void promise10_aTextEmptiesTheTape() {
        EveningOrder x = new EveningOrder();
        x.liking(1, 1, 1);
        due("text a", text(x, 0, "a"), 0);
        due(0, x, "count", 5);
        due(-10, x, "text", 0);
    }

    static void promise10_inPlaceOfOneAhead() {
        EveningOrder x = three();
        x.liking(3, 1, 1);
        text(x, 0, "10+10+10");
        due(90, x, "worthBy", 0, 0, 0);
        text(x, 0, "1");
        due(3, x, "worthBy", 0, 0, 0);
    }

    static void promise10_aShorterOneInPlaceOfOneAhead() {
        EveningOrder x = three();
        x.liking(3, 1, 1);
        text(x, 0, "-5");
        due(-15, x, "worthBy", 0, 0, 0);
        text(x, 0, "7");
        due(21, x, "worthBy", 0, 0, 0);
    }

    static void promise10_aFaultLeavesNothingOpen() {
        EveningOrder x = new EveningOrder();
        x.liking(1, 1, 1);
        due("text (((((", text(x, 0, "((((("), -15);
        due("text (((((a)))))", text(x, 0, "(((((a)))))"), 0);
        due("text a?((((", text(x, 0, "a?(((("), -16);
        due("text -----a", text(x, 0, "-----a"), 5);
    }

    static void promise10_aFaultLeavesNoSignsCounted() {
        EveningOrder x = new EveningOrder();
        x.liking(1, 1, 1);
        due("text a+a+a+", text(x, 0, "a+a+a+"), -16);
        due("text a+a", text(x, 0, "a+a"), 1);
    }

    static void promise10_oneLikingsTextIsNoOthers() {
        EveningOrder x = three();
        x.liking(3, 1, 1);
        x.liking(3, 1, 1);
        text(x, 1, "1");
        due(0, x, "worthBy", 0, 0, 0);
        due(3, x, "worthBy", 0, 0, 1);
    }

    static void promise10_noSuchLikingLeavesTheTape() {
        refused(BEYOND, Checks::full, "text", -1);
        refused(BEYOND, Checks::full, "text", 7);
        due(BEYOND, full(), "text", MIN);
        due(BEYOND, full(), "text", MAX);
    }

    static void promise10_kindsWithoutTextsLeaveTheTape() {
        refused(KIND, Checks::full, "text", 0);
        refused(KIND, Checks::full, "text", 6);
    }

    static void promise10_kindIsAskedEvenOfAnEmptyTape() {
        EveningOrder x = new EveningOrder();
        x.liking(0, 1, 1);
        due(KIND, x, "text", 0);
        due(BEYOND, x, "text", 1);
    }
}
