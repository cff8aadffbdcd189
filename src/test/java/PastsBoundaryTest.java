/** A test of its own for each sentence that names a boundary case of promises 25 and 26. */
public final class PastsBoundaryTest extends Checks {
    public static void main(String[] args) {
        runAll(PastsBoundaryTest.class, 25, 26);
    }

    /** Three PIECES; 0, 1, 2 on SHEET 0, 2, 1, 0 on SHEET 1. */
    private static EveningOrder upAndDown() {
        EveningOrder x = plainPieces(3);
        row(x, 0, 0, 1, 2);
        row(x, 1, 2, 1, 0);
        return x;
    }

    /** With a LIKING of PLACE for each TEXT, and the PAST of 0, 1, 2 over 2, 1, 0. */
    private static EveningOrder liked(String... texts) {
        EveningOrder x = upAndDown();
        for (int i = 0; i < texts.length; i++) {
            x.liking(3, 1, 1);
            due("text " + texts[i], text(x, i, texts[i]) >= 0 ? 1 : 0, 1);
        }
        x.past(0, 1, 0);
        return x;
    }

    private static EveningOrder eightPasts() {
        EveningOrder x = upAndDown();
        x.liking(3, 1, 1);
        text(x, 0, "p*l");
        for (int i = 0; i < 8; i++) {
            x.past(0, 1, i % 3);
        }
        return x;
    }

    private static void plainIs(EveningOrder x, long many, long plainest) {
        due(many, x, "plain", -1);
        due(plainest, x, "plain", 0);
    }

    // ---- promise 25: past

    static void promise25_noSuchSheet() {
        for (long sheet : new long[] {-1, 4, MIN, MAX}) {
            refused(BEYOND, Checks::full, "past", sheet, 0, 0);
            refused(BEYOND, Checks::full, "past", 0, sheet, 0);
        }
    }

    static void promise25_beyondIsAskedAheadOfNone() {
        refused(BEYOND, Checks::full, "past", 3, 4, 0);
        refused(BEYOND, Checks::full, "past", -1, 3, 0);
    }

    static void promise25_oneIsMissing() {
        refused(NONE, Checks::full, "past", 3, 0, 0);
        refused(NONE, Checks::full, "past", 0, 3, 0);
        refused(NONE, Checks::full, "past", 3, 3, 0);
    }

    static void promise25_noneIsAskedAheadOfKind() {
        refused(NONE, Checks::full, "past", 2, 3, 0);
        refused(NONE, Checks::full, "past", 3, 2, 0);
        refused(NONE, Checks::full, "past", 0, 3, -1);
    }

    static void promise25_oneIsNoRow() {
        refused(KIND, Checks::full, "past", 2, 0, 0);
        refused(KIND, Checks::full, "past", 0, 2, 0);
        refused(KIND, Checks::full, "past", 2, 2, 0);
        for (int[] no : new int[][] {{}, {0, 1, 0}, {3}, {-1}}) {
            EveningOrder x = upAndDown();
            row(x, 1, no);
            due(KIND, x, "past", 0, 1, 0);
            due(KIND, x, "past", 1, 0, 0);
            due(0, x, "count", 4);
        }
    }

    static void promise25_theIntervalCannotStandInBoth() {
        refused(KIND, Checks::full, "past", 0, 1, -1);
        refused(KIND, Checks::full, "past", 0, 1, 2);
        refused(KIND, Checks::full, "past", 1, 0, 2);
        refused(KIND, Checks::full, "past", 0, 1, 5);
        refused(KIND, Checks::full, "past", 0, 0, MAX);
        refused(KIND, Checks::full, "past", 0, 0, MIN);
    }

    static void promise25_theIntervalStandsInBoth() {
        due(3, full(), "past", 0, 1, 1);
        due(3, full(), "past", 0, 0, 4);
        due(3, full(), "past", 1, 1, 1);
    }

    static void promise25_rowsOfOneAndOfTwelve() {
        EveningOrder x = plainPieces(12);
        row(x, 0, 3);
        row(x, 1, 0, 1, 2, 3, 4, 5, 6, 7, 8, 9, 10, 11);
        due(1, x, "past", 0, 1, 0);
        due(KIND, x, "past", 0, 1, 1);
        due(2, x, "past", 1, 1, 11);
    }

    static void promise25_theSameSheetTwice() {
        due(1, upAndDown(), "past", 0, 0, 0);
    }

    static void promise25_theEighthIsTheLast() {
        EveningOrder x = upAndDown();
        for (int i = 1; i <= 8; i++) {
            due(i, x, "past", 0, 1, 0);
        }
        due(8, x, "count", 4);
    }

    static void promise25_theNinthIsFull() {
        refused(FULL, PastsBoundaryTest::eightPasts, "past", 0, 1, 0);
    }

    static void promise25_fullIsAskedLast() {
        refused(BEYOND, PastsBoundaryTest::eightPasts, "past", 0, 4, 0);
        refused(NONE, PastsBoundaryTest::eightPasts, "past", 0, 3, 0);
        refused(KIND, PastsBoundaryTest::eightPasts, "past", 0, 1, 3);
    }

    static void promise25_theSheetsMayChangeAfterwards() {
        EveningOrder x = liked("p*l");
        row(x, 0, 2, 1, 0);
        x.sheet(1, 0, 0);
        plainIs(x, 1, 1);
    }

    // ---- promise 26: plain

    static void promise26_whatIsMinus1Or0() {
        for (long what : new long[] {-2, 1, MIN, MAX}) {
            refused(BEYOND, Checks::full, "plain", what);
        }
    }

    static void promise26_withoutPastsAllSetsDo() {
        EveningOrder x = upAndDown();
        plainIs(x, 1, 0);
        for (int i = 0; i < 10; i++) {
            x.liking(0, 1, 1);
        }
        plainIs(x, 1024, 0);
    }

    static void promise26_withoutLikingsThereIsNone() {
        plainIs(liked(), 0, NONE);
    }

    static void promise26_thereIsNone() {
        plainIs(liked("0-p*l"), 0, NONE);
        refused(NONE, () -> liked("0-p*l"), "plain", 0);
    }

    static void promise26_howManyIsNoErrorWhenThereIsNone() {
        EveningOrder x = liked("0-p*l");
        due(0, x, "plain", -1);
        due(0, x, "told", 2);
    }

    static void promise26_asMuchIsNotMore() {
        plainIs(liked("l"), 0, NONE);
        plainIs(liked("p*l", "0-p*l"), 1, 1);
    }

    static void promise26_aNinthMoreIsMore() {
        EveningOrder x = upAndDown();
        x.liking(3, 1, 9);
        text(x, 0, "(p=2)*(l=2)");
        x.past(0, 1, 0);
        plainIs(x, 1, 1);
    }

    static void promise26_a2520thMoreIsMore() {
        EveningOrder x = upAndDown();
        int[][] weights = {{1, 9}, {3, 8}, {-2, 7}, {-1, 5}};
        for (int i = 0; i < 4; i++) {
            x.liking(3, weights[i][0], weights[i][1]);
            text(x, i, "(p=2)*(l=2)");
        }
        x.past(0, 1, 0);
        due(1, x, "worth", 0, 0, 0);
        due(2520, x, "worth", 0, 0, 1);
        // 0, 1, both, 1 with 2 or 3, both with 2 or 3, and all four: these by a 2520th
        plainIs(x, 8, 1);
    }

    static void promise26_belowTheLineCounts() {
        EveningOrder x = upAndDown();
        x.liking(3, 1, 8);
        x.liking(3, -1, 9);
        text(x, 0, "(p=2)*(l=2)");
        text(x, 1, "(p=2)*(l=2)");
        x.past(0, 1, 0);
        plainIs(x, 2, 1);
        EveningOrder y = upAndDown();
        y.liking(3, 1, 9);
        y.liking(3, -1, 8);
        text(y, 0, "(p=2)*(l=2)");
        text(y, 1, "(p=2)*(l=2)");
        y.past(0, 1, 0);
        plainIs(y, 1, 1);
    }

    static void promise26_weight0IsNoLiking() {
        EveningOrder x = upAndDown();
        x.liking(3, 0, 1);
        text(x, 0, "p*l");
        x.past(0, 1, 0);
        plainIs(x, 0, NONE);
    }

    static void promise26_theFewestRatherThanTheLeastBits() {
        EveningOrder x = liked("(p=0)*(l=0)", "(p=2)*(l=2)", "(p=1)*(l=1)");
        row(x, 1, 0, 2, 1);
        row(x, 2, 1, 0, 2);
        // the second PAST is told by 1 and 2, the third by 0 and 2, the first by 0 and 1
        x.past(0, 1, 0);
        x.past(0, 2, 0);
        plainIs(x, 4, 3);
        text(x, 2, "(p=1)*(l=1)+p*l");
        plainIs(x, 5, 4);
    }

    static void promise26_ofSeveralTheLeastBits() {
        plainIs(liked("l", "p*l", "p*l"), 6, 2);
        plainIs(liked("p*l", "p*l"), 3, 1);
    }

    static void promise26_offOnesCountToo() {
        EveningOrder x = liked("p*l");
        x.turn(0, false);
        plainIs(x, 1, 1);
    }

    static void promise26_theTenthLiking() {
        EveningOrder x = upAndDown();
        for (int i = 0; i < 10; i++) {
            x.liking(i < 9 ? 0 : 3, 1, 1);
        }
        text(x, 9, "p*l");
        x.past(0, 1, 0);
        plainIs(x, 512, 512);
    }

    static void promise26_tenLikingsAndEightPasts() {
        EveningOrder x = upAndDown();
        for (int i = 0; i < 10; i++) {
            x.liking(3, 1, 1);
        }
        text(x, 0, "p*l");
        text(x, 9, "p*l");
        for (int i = 0; i < 8; i++) {
            x.past(0, 1, i % 3);
        }
        plainIs(x, 3 * 256, 1);
    }

    static void promise26_theEighthPast() {
        EveningOrder x = upAndDown();
        x.liking(3, 1, 1);
        text(x, 0, "p*l");
        for (int i = 0; i < 7; i++) {
            x.past(0, 1, 0);
        }
        plainIs(x, 1, 1);
        x.past(1, 0, 0);
        plainIs(x, 0, NONE);
    }

    static void promise26_theIntervalOfThePast() {
        EveningOrder x = upAndDown();
        x.liking(3, 1, 1);
        text(x, 0, "j*p*l");
        x.past(0, 1, 1);
        plainIs(x, 0, NONE);
        EveningOrder y = upAndDown();
        y.liking(3, 1, 1);
        text(y, 0, "j*p*l");
        y.past(0, 1, 2);
        plainIs(y, 1, 1);
    }

    static void promise26_rowsNeedNotBeGood() {
        EveningOrder x = liked("p*l");
        x.must(3, 1, 0);
        x.must(3, 201, 0);
        plainIs(x, 1, 1);
    }

    static void promise26_whatWrapsIsComparedAsItIs() {
        // PIECE 2 first makes the lowest int, PIECE 0 first nothing
        plainIs(liked("(p=0)*(l=2)*32*32*32*32*32*32*2"), 1, 1);
        EveningOrder x = upAndDown();
        x.liking(3, -9, 1);
        text(x, 0, "(p=0)*(l=0)*32*32*32*32*32*32*2");
        x.past(0, 1, 0);
        plainIs(x, 1, 1);
    }
}
