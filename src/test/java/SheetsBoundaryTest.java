/** A test of its own for each sentence that names a boundary case of promises 27 to 38. */
public final class SheetsBoundaryTest extends Checks {
    public static void main(String[] args) {
        runAll(SheetsBoundaryTest.class, 27, 38);
    }

    /** LIKING n is of a KIND, those ahead of it are of the KIND LIKING. */
    private static EveningOrder speaking(int n, int kind, int up, int down) {
        EveningOrder x = new EveningOrder();
        for (int i = 0; i < n; i++) {
            x.liking(0, 0, 1);
        }
        x.liking(kind, up, down);
        return x;
    }

    private static void traced(EveningOrder x, int... bodies) {
        due(bodies.length, x, "count", 7);
        for (int i = 0; i < bodies.length; i++) {
            due(bodies[i], x, "trace", i);
        }
        due(NONE, x, "trace", bodies.length);
    }

    private static EveningOrder twelveWait() {
        EveningOrder x = plainPieces(2);
        for (int i = 0; i < 12; i++) {
            x.tell(i);
        }
        return x;
    }

    // ---- promise 27: voice

    static void promise27_noSuchLiking() {
        for (long liking : new long[] {-1, 7, MIN, MAX}) {
            refused(BEYOND, Checks::full, "voice", liking, 0, 1);
        }
        due(BEYOND, new EveningOrder(), "voice", 0, 0, 1);
    }

    static void promise27_noSuchAct() {
        for (long act : new long[] {-1, 4, MIN, MAX}) {
            refused(BEYOND, Checks::full, "voice", 0, act, 1);
        }
    }

    static void promise27_beyondIsAskedAheadOfParted() {
        EveningOrder x = speaking(1, 0, 1, 1);
        due(BEYOND, x, "voice", 2, 3, 1);
        due(BEYOND, x, "voice", 1, 4, 1);
        due(0, x, "told", 6);
    }

    static void promise27_theTenthLiking() {
        due(2 * (5 + 9) - 9, speaking(9, 0, 9, 9), "voice", 9, 2, 5);
    }

    static void promise27_saysWraps() {
        due(MIN, speaking(0, 0, 1, 1), "voice", 0, 0, MAX);
        due(MAX, speaking(0, 0, -1, 1), "voice", 0, 0, MIN);
    }

    static void promise27_hearsWraps() {
        due(MIN, speaking(0, 0, 0, 1), "voice", 0, 1, 1 << 30);
        due(0, speaking(0, 0, 1, 1), "voice", 0, 1, MAX);
        due(-2, speaking(0, 0, 0, 1), "voice", 0, 1, MAX);
    }

    static void promise27_asksWraps() {
        due(MAX, speaking(1, 0, 0, 1), "voice", 1, 2, 1 << 30);
    }

    static void promise27_partsIsCutToward0() {
        due(3, speaking(3, 0, 0, 5), "voice", 3, 3, 7);
        due(-3, speaking(3, 0, 0, 5), "voice", 3, 3, -7);
        due(-3, speaking(3, 0, 0, 1), "voice", 3, 3, 7);
        due(3, speaking(3, 0, 0, 1), "voice", 3, 3, -7);
        due(0, speaking(0, 0, 0, 9), "voice", 0, 3, -8);
    }

    static void promise27_partsOfTheLowestByMinus1Wraps() {
        due(MIN, speaking(2, 0, 0, 1), "voice", 2, 3, MIN);
    }

    static void promise27_nextHearsWraps() {
        due(MIN + 7, speaking(0, 1, 0, 9), "voice", 0, 1, (1 << 30) - 1);
    }

    static void promise27_nextPartsWraps() {
        // MAX by 1, and asks(1): (1 + 0) * 2 + 1 - 0
        due(MIN + 2, speaking(0, 1, 0, 1), "voice", 0, 3, MAX);
    }

    static void promise27_sinceIsCutToward0() {
        due(-2, speaking(0, 2, 0, 1), "voice", 0, 0, -5);
        due(2, speaking(0, 2, 0, 1), "voice", 0, 0, 5);
        due(-(1 << 30), speaking(0, 2, 1, 1), "voice", 0, 0, MAX);
    }

    static void promise27_placeAsksOneMoreAndWraps() {
        due(10, speaking(0, 3, 5, 1), "voice", 0, 2, MAX);
    }

    static void promise27_tiredSaysMinusAndWraps() {
        due(MIN, speaking(0, 4, 0, 1), "voice", 0, 0, MIN);
        due(-MAX, speaking(0, 4, 0, 1), "voice", 0, 0, MAX);
    }

    static void promise27_tiredAsksBitsOfBelow0() {
        due(-14 - 5 ^ 5, speaking(5, 4, 0, 1), "voice", 5, 2, 7);
        due(14 ^ 0, speaking(0, 4, 0, 1), "voice", 0, 2, -7);
    }

    static void promise27_stageSaysWraps() {
        due(MAX - 2, speaking(0, 5, 0, 1), "voice", 0, 0, MAX);
        due(MIN, speaking(0, 5, 0, 1), "voice", 0, 0, MIN);
    }

    static void promise27_stageAsks() {
        // hears: 3 * 3 * 2 + 1, less its number, less says(2)
        due(18 + 1 - 2 - 6, speaking(2, 5, 0, 1), "voice", 2, 2, 3);
    }

    static void promise27_boundHearsOneLessAndWraps() {
        due(-2, speaking(0, 6, 0, 1), "voice", 0, 1, MIN);
    }

    static void promise27_theBodyOfItsKindOrOfTheNextAboveThatHasOne() {
        // says, hears, asks, parts of 20 by KIND, of LIKING 4 with up 2 and down 9
        long[][] of20 = {{22, 44, 40, 4}, {22, 53, 49, 4 + 11}, {11, 22, 18, 4}, {22, 44, 42, 4},
            {-22, -44, -48 ^ 4, 4}, {66, 141, 137 - 12, 141 - (4 + 11)}, {22, 42, 38, 4}};
        for (int kind = 0; kind < 7; kind++) {
            for (int act = 0; act < 4; act++) {
                due(of20[kind][act], speaking(4, kind, 2, 9), "voice", 4, act, 20);
            }
        }
    }

    static void promise27_partedAsDownIsTheNumber() {
        for (int n = 1; n < 10; n++) {
            for (int kind = 0; kind < 7; kind++) {
                EveningOrder x = speaking(n, kind, 1, n);
                due(PARTED, x, "voice", n, 3, 20);
                due(1, x, "told", 6);
            }
        }
    }

    static void promise27_partedEvenOf0() {
        due(PARTED, speaking(1, 0, 0, 1), "voice", 1, 3, 0);
        due(PARTED, speaking(1, 0, 0, 1), "voice", 1, 3, MIN);
    }

    static void promise27_onlyPartsIsParted() {
        for (int kind = 0; kind < 7; kind++) {
            for (int act = 0; act < 3; act++) {
                EveningOrder x = speaking(3, kind, 1, 3);
                x.voice(3, act, 5);
                due(0, x, "told", 6);
            }
        }
    }

    static void promise27_oneLessOrMoreIsNotParted() {
        due(20, speaking(1, 0, 0, 2), "voice", 1, 3, 20);
        due(-20, speaking(2, 0, 0, 1), "voice", 2, 3, 20);
        due(20, speaking(8, 0, 0, 9), "voice", 8, 3, 20);
        due(0, speaking(9, 0, 0, 8), "told", 6);
    }

    static void promise27_partedChangesNothingButTheTrace() {
        EveningOrder x = full();
        x.liking(0, 1, 7);
        EveningOrder y = full();
        y.liking(0, 1, 7);
        due(PARTED, x, "voice", 7, 3, 1);
        traced(x, 13);
        y.voice(7, 0, 1);
        x.voice(7, 0, 1);
        same("PARTED", x, y);
    }

    static void promise27_asLowAsAnErrorIsNoError() {
        EveningOrder x = speaking(0, 0, 0, 1);
        for (int k = 1; k <= 6; k++) {
            due(LOW - k, x, "voice", 0, 0, LOW - k);
            due(0, x, "told", k);
        }
    }

    static void promise27_offOnesSpeak() {
        EveningOrder x = speaking(0, 0, 4, 1);
        x.turn(0, false);
        due(9, x, "voice", 0, 0, 5);
    }

    // ---- promise 28: trace

    static void promise28_noneAtFirst() {
        traced(new EveningOrder());
        due(NONE, new EveningOrder(), "trace", -1);
    }

    static void promise28_firstAndLast() {
        EveningOrder x = full();
        // NEXT asks: 12, 20, 11, 10
        due(12, x, "trace", 0);
        due(10, x, "trace", 3);
    }

    static void promise28_noneSuch() {
        for (long i : new long[] {-1, 4, 29, 30, MIN, MAX}) {
            refused(NONE, Checks::full, "trace", i);
        }
    }

    static void promise28_ofTheLatestAlone() {
        EveningOrder x = full();
        x.voice(0, 0, 1);
        traced(x, 10);
    }

    static void promise28_aVoiceThatIsBeyondLeavesIt() {
        EveningOrder x = full();
        x.voice(7, 0, 1);
        x.voice(0, 4, 1);
        traced(x, 12, 20, 11, 10);
    }

    static void promise28_whatStandsLeftIsWorkedOutFirst() {
        EveningOrder x = speaking(0, 1, 1, 1);
        x.voice(0, 3, 1);
        traced(x, 21, 13, 12, 20, 11, 10);
        EveningOrder y = speaking(0, 5, 1, 1);
        y.voice(0, 2, 1);
        traced(y, 61, 12, 20, 11, 60, 10, 60, 10);
    }

    private static void tracedOf(int kind, int act, int... bodies) {
        EveningOrder x = speaking(4, kind, 2, 9);
        x.voice(4, act, 20);
        traced(x, bodies);
    }

    static void promise28_bodiesOfSays() {
        int[][] says = {{10}, {10}, {30, 10}, {10}, {50, 10}, {60, 10}, {10}};
        for (int kind = 0; kind < 7; kind++) {
            tracedOf(kind, 0, says[kind]);
        }
    }

    static void promise28_bodiesOfHears() {
        int[][] hears = {{11, 10}, {20, 11, 10}, {11, 30, 10}, {11, 10}, {11, 50, 10}, {20, 11, 60, 10}, {70, 11, 10}};
        for (int kind = 0; kind < 7; kind++) {
            tracedOf(kind, 1, hears[kind]);
        }
    }

    static void promise28_bodiesOfAsks() {
        int[][] asks = {{12, 11, 10}, {12, 20, 11, 10}, {12, 11, 30, 10}, {40, 12, 11, 10}, {51, 12, 11, 50, 10},
            {61, 12, 20, 11, 60, 10, 60, 10}, {12, 70, 11, 10}};
        for (int kind = 0; kind < 7; kind++) {
            tracedOf(kind, 2, asks[kind]);
        }
    }

    static void promise28_bodiesOfParts() {
        int[][] parts = {{13}, {21, 13, 12, 20, 11, 10}, {13}, {13}, {13},
            {62, 20, 11, 60, 10, 21, 13, 61, 12, 20, 11, 60, 10, 60, 10}, {13}};
        for (int kind = 0; kind < 7; kind++) {
            tracedOf(kind, 3, parts[kind]);
        }
    }

    static void promise28_theLongestThereIs() {
        // no voice() has more than 15 BODIES, so that 30 are never exceeded
        EveningOrder x = speaking(0, 5, 1, 1);
        x.voice(0, 3, 1);
        traced(x, 62, 20, 11, 60, 10, 21, 13, 61, 12, 20, 11, 60, 10, 60, 10);
    }

    static void promise28_ofAPartedVoiceWhatHadBegun() {
        EveningOrder x = speaking(1, 0, 1, 1);
        x.voice(1, 3, 5);
        traced(x, 13);
        EveningOrder y = speaking(1, 1, 1, 1);
        y.voice(1, 3, 5);
        traced(y, 21, 13);
        EveningOrder z = speaking(1, 5, 1, 1);
        z.voice(1, 3, 5);
        traced(z, 62, 20, 11, 60, 10, 21, 13);
    }

    static void promise28_anotherVoiceBehindAPartedOne() {
        EveningOrder x = speaking(1, 1, 1, 1);
        x.voice(1, 3, 5);
        due(2 * (5 + 1) + 1, x, "voice", 1, 1, 5);
        traced(x, 20, 11, 10);
    }

    // ---- promise 29: sheet

    static void promise29_sheets0To3() {
        for (long sheet : new long[] {-1, 4, MIN, MAX}) {
            refused(BEYOND, Checks::full, "sheet", sheet, 8, 1);
            refused(BEYOND, Checks::full, "sheet", sheet, 0, 1);
        }
        EveningOrder x = new EveningOrder();
        due(1, x, "sheet", 0, 8, 1);
        due(1, x, "sheet", 3, 8, 1);
        due(0, x, "get", 0, 0);
        due(0, x, "get", 3, 0);
        due(NONE, x, "get", 1, 0);
        due(NONE, x, "get", 2, 0);
    }

    static void promise29_noSuchBits() {
        for (long bits : new long[] {-8, -1, 1, 7, 9, 15, 17, 24, 31, 33, 64, MIN, MAX}) {
            refused(BEYOND, Checks::full, "sheet", 0, bits, 1);
        }
    }

    static void promise29_from0To24Numbers() {
        EveningOrder x = new EveningOrder();
        due(1, x, "sheet", 0, 8, 24);
        due(0, x, "get", 0, 23);
        due(BEYOND, x, "get", 0, 24);
        due(1, x, "sheet", 1, 32, 0);
        due(BEYOND, x, "get", 1, 0);
    }

    static void promise29_nAbove24() {
        refused(BEYOND, Checks::full, "sheet", 0, 8, 25);
        refused(BEYOND, Checks::full, "sheet", 3, 32, MAX);
    }

    static void promise29_nBelow0() {
        refused(STATE, Checks::full, "sheet", 0, 8, -1);
        refused(STATE, Checks::full, "sheet", 3, 16, MIN);
    }

    static void promise29_beyondIsAskedAheadOfState() {
        refused(BEYOND, Checks::full, "sheet", 4, 8, -1);
        refused(BEYOND, Checks::full, "sheet", -1, 8, -1);
        refused(BEYOND, Checks::full, "sheet", 0, 9, -1);
    }

    static void promise29_missingWhateverN() {
        for (int n : new int[] {-1, 0, 1, 24, 25, MIN, MAX}) {
            EveningOrder x = full();
            due(1, x, "sheet", 0, 0, n);
            due(NONE, x, "get", 0, 0);
        }
    }

    static void promise29_missingAgain() {
        EveningOrder x = new EveningOrder();
        due(1, x, "sheet", 0, 0, 0);
        due(NONE, x, "get", 0, 0);
    }

    static void promise29_allAre0Again() {
        EveningOrder x = new EveningOrder();
        x.sheet(0, 8, 24);
        for (int i = 0; i < 24; i++) {
            x.put(0, i, i + 1);
        }
        x.sheet(0, 32, 24);
        for (int i = 0; i < 24; i++) {
            due(0, x, "get", 0, i);
        }
    }

    static void promise29_allAre0BehindAShorterOne() {
        EveningOrder x = new EveningOrder();
        x.sheet(0, 8, 24);
        x.put(0, 23, 9);
        x.put(0, 1, 9);
        x.sheet(0, 8, 1);
        x.sheet(0, 8, 24);
        due(0, x, "get", 0, 1);
        due(0, x, "get", 0, 23);
    }

    static void promise29_allAre0BehindAMissingOne() {
        EveningOrder x = new EveningOrder();
        x.sheet(0, 8, 2);
        x.put(0, 1, 9);
        x.sheet(0, 0, 0);
        x.sheet(0, 8, 2);
        due(0, x, "get", 0, 1);
    }

    // ---- promise 30: put

    /** What is put, and what it is then. */
    private static void kept(int bits, long... pairs) {
        EveningOrder x = new EveningOrder();
        x.sheet(2, bits, 3);
        for (int i = 0; i < pairs.length; i += 2) {
            due(1, x, "put", 2, 1, pairs[i]);
            due(pairs[i + 1], x, "get", 2, 1);
        }
        due(0, x, "get", 2, 0);
        due(0, x, "get", 2, 2);
    }

    static void promise30_lowest8Bits() {
        kept(8, 127, 127, 128, -128, 255, -1, 256, 0, 257, 1, -128, -128, -129, 127, MIN, 0, MAX, -1);
    }

    static void promise30_lowest16Bits() {
        kept(16, 32767, 32767, 32768, -32768, 65535, -1, 65536, 0, -32768, -32768, -32769, 32767, MIN, 0, MAX, -1);
    }

    static void promise30_all32Bits() {
        kept(32, MIN, MIN, MAX, MAX, -1, -1, 65536, 65536);
    }

    static void promise30_noSuchSheet() {
        for (long sheet : new long[] {-1, 4, MIN, MAX}) {
            refused(BEYOND, Checks::full, "put", sheet, 0, 1);
        }
    }

    static void promise30_missing() {
        refused(NONE, Checks::full, "put", 3, 0, 1);
    }

    static void promise30_noneIsAskedAheadOfTheNumber() {
        refused(NONE, Checks::full, "put", 3, -1, 1);
        refused(NONE, Checks::full, "put", 3, 24, 1);
    }

    static void promise30_noSuchNumber() {
        for (long i : new long[] {-1, 5, 23, 24, MIN, MAX}) {
            refused(BEYOND, Checks::full, "put", 0, i, 1);
        }
        EveningOrder x = new EveningOrder();
        x.sheet(0, 8, 0);
        due(BEYOND, x, "put", 0, 0, 1);
    }

    static void promise30_firstAndLastOf24() {
        EveningOrder x = new EveningOrder();
        x.sheet(0, 16, 24);
        due(1, x, "put", 0, 0, 5);
        due(1, x, "put", 0, 23, 6);
        due(BEYOND, x, "put", 0, 24, 7);
        due(5, x, "get", 0, 0);
        due(6, x, "get", 0, 23);
        due(0, x, "get", 0, 22);
    }

    // ---- promise 31: get

    static void promise31_noSuchSheet() {
        for (long sheet : new long[] {-1, 4, MIN, MAX}) {
            refused(BEYOND, Checks::full, "get", sheet, 0);
        }
    }

    static void promise31_missing() {
        refused(NONE, Checks::full, "get", 3, 0);
    }

    static void promise31_noneIsAskedAheadOfTheNumber() {
        refused(NONE, Checks::full, "get", 3, -1);
        refused(NONE, Checks::full, "get", 3, 24);
    }

    static void promise31_noSuchNumber() {
        for (long i : new long[] {-1, 5, 23, 24, MIN, MAX}) {
            refused(BEYOND, Checks::full, "get", 0, i);
        }
        EveningOrder x = new EveningOrder();
        x.sheet(0, 32, 0);
        due(BEYOND, x, "get", 0, 0);
    }

    static void promise31_firstAndLast() {
        EveningOrder x = full();
        due(0, x, "get", 0, 0);
        due(4, x, "get", 0, 4);
        due(4, x, "get", 1, 0);
        due(3, x, "get", 1, 1);
    }

    static void promise31_asLowAsAnErrorIsNoError() {
        EveningOrder x = new EveningOrder();
        x.sheet(0, 32, 1);
        for (int k = 1; k <= 6; k++) {
            x.put(0, 0, LOW - k);
            due(LOW - k, x, "get", 0, 0);
            due(0, x, "told", k);
        }
    }

    // ---- promise 32: move

    /** 1 .. 5 on SHEET 0 and 9, 9, 9 on SHEET 1, both of 8 bits; 24 numbers of 32 bits on 2; 3 is missing. */
    private static EveningOrder moving() {
        EveningOrder x = plainPieces(2);
        row(x, 0, 1, 2, 3, 4, 5);
        row(x, 1, 9, 9, 9);
        x.sheet(2, 32, 24);
        return x;
    }

    private static void onSheet(EveningOrder x, int sheet, int... numbers) {
        for (int i = 0; i < numbers.length; i++) {
            due(numbers[i], x, "get", sheet, i);
        }
        due(BEYOND, x, "get", sheet, numbers.length);
    }

    static void promise32_noSuchSheet() {
        for (long sheet : new long[] {-1, 4, MIN, MAX}) {
            refused(BEYOND, SheetsBoundaryTest::moving, "move", sheet, 0, 0, 0, 1);
            refused(BEYOND, SheetsBoundaryTest::moving, "move", 0, 0, sheet, 0, 1);
        }
    }

    static void promise32_oneIsMissing() {
        refused(NONE, SheetsBoundaryTest::moving, "move", 3, 0, 0, 0, 0);
        refused(NONE, SheetsBoundaryTest::moving, "move", 0, 0, 3, 0, 0);
        refused(NONE, SheetsBoundaryTest::moving, "move", 3, 0, 3, 0, 0);
    }

    static void promise32_beyondIsAskedAheadOfNone() {
        refused(BEYOND, SheetsBoundaryTest::moving, "move", 3, 0, 4, 0, 0);
        refused(BEYOND, SheetsBoundaryTest::moving, "move", 4, 0, 3, 0, 0);
    }

    static void promise32_noneIsAskedAheadOfTheNumbers() {
        refused(NONE, SheetsBoundaryTest::moving, "move", 3, -1, 0, 0, 1);
        refused(NONE, SheetsBoundaryTest::moving, "move", 0, 0, 3, 0, -1);
    }

    static void promise32_unlikeBits() {
        refused(KIND, SheetsBoundaryTest::moving, "move", 0, 0, 2, 0, 1);
        refused(KIND, SheetsBoundaryTest::moving, "move", 2, 0, 0, 0, 0);
    }

    static void promise32_kindIsAskedAheadOfTheNumbers() {
        refused(KIND, SheetsBoundaryTest::moving, "move", 0, -1, 2, 0, 1);
        refused(KIND, SheetsBoundaryTest::moving, "move", 0, 0, 2, 0, 25);
    }

    static void promise32_nBelow0() {
        refused(BEYOND, SheetsBoundaryTest::moving, "move", 0, 0, 1, 0, -1);
        refused(BEYOND, SheetsBoundaryTest::moving, "move", 0, 3, 1, 2, -1);
        refused(BEYOND, SheetsBoundaryTest::moving, "move", 0, 0, 1, 0, MIN);
    }

    static void promise32_iBelow0() {
        refused(BEYOND, SheetsBoundaryTest::moving, "move", 0, -1, 1, 0, 1);
        refused(BEYOND, SheetsBoundaryTest::moving, "move", 0, -1, 1, 0, 0);
        refused(BEYOND, SheetsBoundaryTest::moving, "move", 0, MIN, 1, 0, 1);
    }

    static void promise32_jBelow0() {
        refused(BEYOND, SheetsBoundaryTest::moving, "move", 0, 0, 1, -1, 1);
        refused(BEYOND, SheetsBoundaryTest::moving, "move", 0, 0, 1, -1, 0);
        refused(BEYOND, SheetsBoundaryTest::moving, "move", 0, 0, 1, MIN, 1);
    }

    static void promise32_theyDoNotStandThere() {
        refused(BEYOND, SheetsBoundaryTest::moving, "move", 0, 5, 1, 0, 1);
        refused(BEYOND, SheetsBoundaryTest::moving, "move", 0, 4, 1, 0, 2);
        refused(BEYOND, SheetsBoundaryTest::moving, "move", 0, 6, 1, 0, 0);
        refused(BEYOND, SheetsBoundaryTest::moving, "move", 0, 0, 0, 0, 6);
    }

    static void promise32_thereAreNoSuchPlacesThere() {
        refused(BEYOND, SheetsBoundaryTest::moving, "move", 0, 0, 1, 3, 1);
        refused(BEYOND, SheetsBoundaryTest::moving, "move", 0, 0, 1, 2, 2);
        refused(BEYOND, SheetsBoundaryTest::moving, "move", 0, 0, 1, 4, 0);
        refused(BEYOND, SheetsBoundaryTest::moving, "move", 0, 0, 1, 0, 4);
    }

    static void promise32_sumsThatWouldWrap() {
        refused(BEYOND, SheetsBoundaryTest::moving, "move", 0, MAX, 1, 0, 1);
        refused(BEYOND, SheetsBoundaryTest::moving, "move", 0, 1, 1, 0, MAX);
        refused(BEYOND, SheetsBoundaryTest::moving, "move", 0, MAX, 1, MAX, MAX);
        refused(BEYOND, SheetsBoundaryTest::moving, "move", 0, 0, 1, MAX, 1);
    }

    static void promise32_noneAtAll() {
        EveningOrder x = moving();
        due(0, x, "move", 0, 0, 1, 0, 0);
        due(0, x, "move", 0, 5, 1, 3, 0);
        onSheet(x, 0, 1, 2, 3, 4, 5);
        onSheet(x, 1, 9, 9, 9);
    }

    static void promise32_asManyAsThereAre() {
        EveningOrder x = moving();
        due(3, x, "move", 0, 2, 1, 0, 3);
        onSheet(x, 1, 3, 4, 5);
        due(5, x, "move", 0, 0, 0, 0, 5);
        onSheet(x, 0, 1, 2, 3, 4, 5);
        due(24, x, "move", 2, 0, 2, 0, 24);
    }

    static void promise32_theLastOne() {
        EveningOrder x = moving();
        due(1, x, "move", 0, 4, 1, 2, 1);
        onSheet(x, 1, 9, 9, 5);
    }

    static void promise32_upWithinOneAsTheyAllWere() {
        EveningOrder x = moving();
        due(4, x, "move", 0, 0, 0, 1, 4);
        onSheet(x, 0, 1, 1, 2, 3, 4);
    }

    static void promise32_downWithinOneAsTheyAllWere() {
        EveningOrder x = moving();
        due(4, x, "move", 0, 1, 0, 0, 4);
        onSheet(x, 0, 2, 3, 4, 5, 5);
    }

    static void promise32_numbersOf32BitsStayWhole() {
        EveningOrder x = new EveningOrder();
        x.sheet(0, 32, 2);
        x.sheet(1, 32, 2);
        x.put(0, 0, MIN);
        x.put(0, 1, MAX);
        due(2, x, "move", 0, 0, 1, 0, 2);
        onSheet(x, 1, MIN, MAX);
    }

    // ---- promise 33: image

    static void promise33_ofNothingAtAll() {
        EveningOrder x = new EveningOrder();
        due(1, x, "image");
        x.piece(1000, 0, 0, 0);
        due(0, x, "restore");
        due(0, x, "count", 0);
    }

    static void promise33_howOftenThatWasDone() {
        EveningOrder x = new EveningOrder();
        for (int i = 1; i <= 20; i++) {
            due(i, x, "image");
        }
    }

    static void promise33_howOftenIsNotInTheImage() {
        EveningOrder x = new EveningOrder();
        due(1, x, "image");
        due(2, x, "image");
        x.restore();
        due(3, x, "image");
    }

    static void promise33_inPlaceOfOneAhead() {
        EveningOrder x = plainPieces(1);
        x.image();
        x.piece(1000, 0, 0, 0);
        x.image();
        x.piece(1000, 0, 0, 0);
        due(2, x, "restore");
        due(2, x, "restore");
    }

    static void promise33_changesNothingElse() {
        EveningOrder x = full();
        due(2, x, "image");
        for (int what = 0; what < 8; what++) {
            due(full().count(what), x, "count", what);
        }
        for (int k = 1; k <= 6; k++) {
            due(full().told(k), x, "told", k);
        }
        traced(x, 12, 20, 11, 10);
        due(0, x, "check", 3);
    }

    static void promise33_ofAllThatThereMayBe() {
        EveningOrder x = plainPieces(12);
        row(x, 0, 0, 1);
        for (int i = 0; i < 10; i++) {
            x.liking(3, 1, 1);
            text(x, i, "1+1+1+1+1+1+1+1+1+1+1+1+1+1+1+1+1+1+1+1+1+1+1+1+99");
            x.must(3, 1, 0);
        }
        for (int i = 0; i < 8; i++) {
            x.past(0, 0, 0);
        }
        for (int i = 0; i < 12; i++) {
            x.tell(i);
        }
        for (int i = 0; i < 50; i++) {
            x.feed('9', 1);
        }
        x.image();
        x.check(0);
        x.text(0);
        due(12, x, "restore");
        long[] counts = {12, 10, 10, 10, 8, 50, 12, 0};
        for (int what = 0; what < 8; what++) {
            due(counts[what], x, "count", what);
        }
        due(2 * 123, x, "worthBy", 0, 0, 9);
        due(FULL, x, "piece", 1000, 0, 0, 0);
        due(FULL, x, "tell", 1);
    }

    // ---- promise 34: restore

    static void promise34_thereIsNone() {
        EveningOrder x = plainPieces(2);
        due(NONE, x, "restore");
        due(2, x, "count", 0);
        due(1, x, "told", 2);
    }

    static void promise34_againAndAgain() {
        EveningOrder x = plainPieces(2);
        x.image();
        for (int i = 0; i < 3; i++) {
            due(2, x, "piece", 2000, 0, 0, 0);
            due(2, x, "restore");
        }
    }

    static void promise34_whatCameLaterIsGone() {
        EveningOrder x = plainPieces(1);
        x.image();
        x.piece(1000, 0, 0, 0);
        x.liking(1, 1, 1);
        x.must(3, 1, 0);
        row(x, 0, 0);
        x.past(0, 0, 0);
        x.tell(1);
        x.feed('a', 1);
        x.restore();
        long[] counts = {1, 0, 0, 0, 0, 0, 0, 0};
        for (int what = 0; what < 8; what++) {
            due(counts[what], x, "count", what);
        }
        due(BEYOND, x, "pieceIs", 1, 0);
        due(BEYOND, x, "turn", 0, 1);
    }

    static void promise34_rulesAreAsTheyWere() {
        EveningOrder x = new EveningOrder();
        x.rule(0, 9);
        x.image();
        for (int what = 0; what < 4; what++) {
            x.rule(what, 0);
        }
        x.restore();
        due(9, x, "rule", 0, 1);
        due(1, x, "rule", 1, 1);
        due(20, x, "rule", 2, 1);
        due(999, x, "rule", 3, 1);
    }

    static void promise34_likingsAreAsTheyWere() {
        EveningOrder x = three();
        x.liking(3, 1, 1);
        x.liking(3, 1, 1);
        text(x, 0, "2");
        x.turn(1, false);
        x.image();
        text(x, 0, "5");
        text(x, 1, "5");
        x.turn(0, false);
        x.turn(1, true);
        x.restore();
        due(6, x, "worthBy", 0, 0, 0);
        due(0, x, "worthBy", 0, 0, 1);
        due(6, x, "worth", 0, 0, 0);
        due(1, x, "count", 2);
    }

    static void promise34_pastsAreAsTheyWere() {
        EveningOrder x = plainPieces(2);
        row(x, 0, 0, 1);
        row(x, 1, 1, 0);
        x.liking(3, 1, 1);
        text(x, 0, "p*l");
        x.past(0, 1, 0);
        x.image();
        x.past(1, 0, 0);
        due(NONE, x, "plain", 0);
        x.restore();
        due(1, x, "plain", 0);
        due(2, x, "past", 1, 0, 0);
    }

    static void promise34_whatWaitsIsAsItWas() {
        EveningOrder x = plainPieces(2);
        x.tell(0);
        x.tell(1);
        x.image();
        x.check(0);
        x.tell(7);
        x.restore();
        due(2, x, "count", 6);
        due(0, x, "check", 3);
    }

    static void promise34_theTapeIsAsItWas() {
        EveningOrder x = new EveningOrder();
        x.liking(1, 1, 1);
        tape(x, "a+b");
        x.image();
        x.text(0);
        tape(x, "x");
        x.restore();
        due(3, x, "count", 5);
        due(1, x, "text", 0);
    }

    static void promise34_sheetsStay() {
        EveningOrder x = plainPieces(2);
        row(x, 0, 0, 1);
        x.image();
        row(x, 0, 1, 0);
        x.sheet(1, 8, 2);
        x.restore();
        due(1, x, "get", 0, 0);
        due(0, x, "get", 1, 0);
    }

    static void promise34_theTraceStays() {
        EveningOrder x = speaking(0, 0, 1, 1);
        x.image();
        x.voice(0, 1, 1);
        x.restore();
        traced(x, 11, 10);
    }

    static void promise34_whatToldTellsStays() {
        EveningOrder x = new EveningOrder();
        x.best(0, 0);
        x.image();
        x.best(0, 0);
        x.restore();
        due(2, x, "told", 5);
    }

    static void promise34_whatWasSearchedIsOfNow() {
        EveningOrder x = plainPieces(2);
        x.image();
        due(0, x, "best", 3, 0);
        x.must(3, 1, 0);
        due(1, x, "best", 3, 0);
        x.restore();
        due(0, x, "best", 3, 0);
    }

    // ---- promise 35: tell

    static void promise35_theTwelfthIsTheLast() {
        EveningOrder x = new EveningOrder();
        for (int i = 1; i <= 12; i++) {
            due(i, x, "tell", -i);
        }
        due(12, x, "count", 6);
    }

    static void promise35_theThirteenthIsFull() {
        refused(FULL, SheetsBoundaryTest::twelveWait, "tell", 0);
    }

    static void promise35_anyNumberWaits() {
        EveningOrder x = new EveningOrder();
        due(1, x, "tell", MIN);
        due(2, x, "tell", MAX);
        due(3, x, "tell", -1);
    }

    static void promise35_noneWaitsBehindACheck() {
        EveningOrder x = twelveWait();
        x.check(3);
        due(1, x, "tell", 0);
    }

    // ---- promise 36: check

    private static void checked(long want, int set, int... waiting) {
        EveningOrder x = plainPieces(8);
        for (int v : waiting) {
            x.tell(v);
        }
        due(want, x, "check", set);
        due(0, x, "count", 6);
    }

    static void promise36_allAreRight() {
        checked(0, 1, 0);
        checked(0, 0b10100100, 2, 5, 7);
        checked(0, 63, 0, 1, 2, 3, 4, 5);
    }

    static void promise36_theFirstIsWrong() {
        checked(1, 0b10100100, 5, 2, 7);
        checked(1, 1, MIN);
        checked(1, 1, MAX);
        checked(1, 1, -1);
    }

    static void promise36_theLastIsWrong() {
        checked(3, 0b10100100, 2, 5, 6);
        checked(6, 63, 0, 1, 2, 3, 4, 0);
    }

    static void promise36_theFirstOfSeveralThatAreWrong() {
        checked(2, 0b10100100, 2, 7, 5);
    }

    static void promise36_noneWaits() {
        checked(1, 1);
        checked(1, 63);
    }

    static void promise36_oneLacks() {
        checked(3, 0b10100100, 2, 5);
    }

    static void promise36_oneIsTooMany() {
        checked(4, 0b10100100, 2, 5, 7, 0);
        checked(7, 63, 0, 1, 2, 3, 4, 5, 5);
    }

    static void promise36_elevenAreTooMany() {
        checked(2, 1, 0, 0, 0, 0, 0, 0, 0, 0, 0, 0, 0, 0);
    }

    static void promise36_bitsOfNoPieces() {
        asksForPieces("check");
        checked(BEYOND, 256, 1, 2);
        checked(BEYOND, -1, 1);
    }

    static void promise36_noneOrMoreThanSix() {
        asksHowMany("check", 6);
        checked(KIND, 0, 1, 2);
        checked(KIND, 127, 0, 1);
    }

    static void promise36_noRowIsGood() {
        EveningOrder x = plainPieces(1);
        x.piece(1000, 0, 0, 0);
        x.must(3, 1, 0);
        x.tell(0);
        due(NONE, x, "check", 1);
        due(0, x, "count", 6);
        due(1, x, "told", 2);
    }

    static void promise36_twiceInARow() {
        EveningOrder x = plainPieces(1);
        x.tell(0);
        due(0, x, "check", 1);
        due(1, x, "check", 1);
    }

    static void promise36_theErrorsAreCounted() {
        EveningOrder x = plainPieces(8);
        x.check(256);
        x.check(0);
        x.check(127);
        due(1, x, "told", 1);
        due(2, x, "told", 5);
    }

    // ---- promise 37: count

    static void promise37_what0To7() {
        long[] counts = {5, 7, 6, 4, 2, 2, 2, 4};
        for (int what = 0; what < 8; what++) {
            due(counts[what], full(), "count", what);
        }
    }

    static void promise37_noSuchWhat() {
        for (long what : new long[] {-1, 8, MIN, MAX}) {
            refused(BEYOND, Checks::full, "count", what);
        }
    }

    static void promise37_noneOn() {
        EveningOrder x = full();
        for (int i = 0; i < 7; i++) {
            x.turn(i, false);
        }
        due(0, x, "count", 2);
        due(7, x, "count", 1);
    }

    // ---- promise 38: told

    static void promise38_anotherKIsBeyondAndCounted() {
        for (long k : new long[] {-1, 0, 7, MIN, MAX}) {
            refused(BEYOND, Checks::full, "told", k);
        }
        EveningOrder x = new EveningOrder();
        due(BEYOND, x, "told", 0);
        due(BEYOND, x, "told", 7);
        due(2, x, "told", 1);
    }

    static void promise38_askingIsNotCounted() {
        EveningOrder x = new EveningOrder();
        for (int i = 0; i < 3; i++) {
            for (int k = 1; k <= 6; k++) {
                due(0, x, "told", k);
            }
        }
    }

    static void promise38_eachErrorByItsOwnNumber() {
        EveningOrder x = speaking(1, 0, 1, 1);
        x.count(9);
        x.restore();
        x.restore();
        for (int i = 0; i < 3; i++) {
            x.sheet(0, 8, -1);
        }
        for (int i = 0; i < 12; i++) {
            x.tell(i);
        }
        for (int i = 0; i < 4; i++) {
            x.tell(0);
        }
        for (int i = 0; i < 5; i++) {
            x.best(0, 0);
        }
        for (int i = 0; i < 6; i++) {
            x.voice(1, 3, 0);
        }
        for (int k = 1; k <= 6; k++) {
            due(k, x, "told", k);
        }
    }

    static void promise38_errorsInLongsLikewise() {
        EveningOrder x = plainPieces(1);
        x.worth(4, 0, 0);
        x.worth(0, 0, 0);
        x.most(0, 0);
        x.most(2, 0);
        x.piece(1000, 0, 0, 0);
        x.must(3, 1, 0);
        x.most(1, 0);
        due(2, x, "told", 1);
        due(2, x, "told", 2);
        due(1, x, "told", 5);
    }

    static void promise38_manyErrors() {
        EveningOrder x = new EveningOrder();
        for (int i = 0; i < 511; i++) {
            x.restore();
        }
        due(511, x, "told", 2);
    }
}
