import java.lang.reflect.InvocationTargetException;
import java.lang.reflect.Method;
import java.util.ArrayList;
import java.util.List;
import java.util.TreeMap;

/** What tests of single calls share: answers that are due, evenings to begin with, tests named by their promise. */
abstract class Checks {
    static final int LOW = -1000000;
    static final long BEYOND = LOW - 1;
    static final long NONE = LOW - 2;
    static final long STATE = LOW - 3;
    static final long FULL = LOW - 4;
    static final long KIND = LOW - 5;
    static final long PARTED = LOW - 6;
    static final int MIN = Integer.MIN_VALUE;
    static final int MAX = Integer.MAX_VALUE;

    private static int checked = 0;
    private static int wrong = 0;
    private static String running = "";

    /** Makes the same evening again and again. */
    interface Maker {
        EveningOrder make();
    }

    // ---- what is due

    static void due(String what, long got, long want) {
        checked++;
        if (got != want) {
            wrong++;
            System.out.println(running + what + " answered " + got + ", due is " + want);
        }
    }

    /** A call by its name. */
    static void due(long want, EveningOrder x, String name, long... a) {
        due(told(name, a), Calls.call(x, name, a), want);
    }

    private static String told(String name, long... a) {
        StringBuilder what = new StringBuilder(name).append('(');
        for (int i = 0; i < a.length; i++) {
            what.append(i == 0 ? "" : ", ").append(a[i]);
        }
        return what.append(')').toString();
    }

    /** The call answers an ERROR, which is counted, and nothing else has changed by it. */
    static void refused(long want, Maker maker, String name, long... a) {
        EveningOrder asked = maker.make();
        EveningOrder left = maker.make();
        due(want, asked, name, a);
        for (int k = 1; k <= 6; k++) {
            due(told(name, a) + ", then told(" + k + ")", asked.told(k), left.told(k) + (want == LOW - k ? 1 : 0));
        }
        same(told(name, a), asked, left);
    }

    /** All that can be seen of both, but for what told() tells, is the same; they are used up by that. */
    static void same(String behind, EveningOrder x, EveningOrder y) {
        List<Long> seen = everything(x);
        List<Long> due = everything(y);
        due("behind " + behind + " how much is seen", seen.size(), due.size());
        for (int i = 0; i < seen.size() && i < due.size(); i++) {
            due("behind " + behind + " what is seen " + i, seen.get(i), due.get(i));
        }
    }

    private static List<Long> everything(EveningOrder x) {
        List<Long> seen = new ArrayList<>();
        for (int what = 0; what < 8; what++) {
            seen.add((long) x.count(what));
        }
        for (int piece = 0; piece < x.count(0); piece++) {
            for (int what = 0; what < 6; what++) {
                seen.add((long) x.pieceIs(piece, what));
            }
        }
        for (int i = 0; i < x.count(7); i++) {
            seen.add((long) x.trace(i));
        }
        for (int sheet = 0; sheet < 4; sheet++) {
            seesSheet(x, sheet, seen);
        }
        seen.add((long) x.plain(-1));
        seen.add((long) x.check(3));
        for (int liking = 0; liking < x.count(1); liking++) {
            seen.add((long) x.text(liking));
        }
        seen.add((long) x.image());
        for (int what = 0; what < 4; what++) {
            seen.add((long) x.rule(what, 0));
        }
        return seen;
    }

    private static void seesSheet(EveningOrder x, int sheet, List<Long> seen) {
        for (int i = 0; i < 14; i++) {
            seen.add((long) x.get(sheet, i));
        }
        for (int i = 0; i < 2; i++) {
            seen.add(x.worth(sheet, i, 0));
            seen.add(x.worth(sheet, i, 1));
            seen.add((long) x.judge(sheet, i, 3));
        }
        for (int liking = 0; liking < x.count(1); liking++) {
            seen.add((long) x.as(liking, 0));
            seen.add((long) x.worthBy(sheet, 0, liking));
        }
    }

    // ---- acts that take a ROW from a SHEET: the SHEET, THE INTERVAL, then the rest of their numbers

    private static long[] numbers(long sheet, long interval, long... rest) {
        long[] a = new long[2 + rest.length];
        a[0] = sheet;
        a[1] = interval;
        System.arraycopy(rest, 0, a, 2, rest.length);
        return a;
    }

    private static Maker fullWith(int... onSheet) {
        return () -> {
            EveningOrder x = full();
            row(x, 0, onSheet);
            return x;
        };
    }

    /** There are SHEETS 0 .. 3, which is asked ahead of all else. */
    static void asksForASheet(String act, long... rest) {
        for (long sheet : new long[] {-1, 4, MIN, MAX}) {
            refused(BEYOND, Checks::full, act, numbers(sheet, 0, rest));
            due(BEYOND, full(), act, numbers(sheet, -1, rest));
        }
    }

    /** A missing SHEET, which is asked ahead of where THE INTERVAL stands. */
    static void asksWhetherItIsMissing(String act, long... rest) {
        refused(NONE, Checks::full, act, numbers(3, 0, rest));
        refused(NONE, Checks::full, act, numbers(3, -1, rest));
        refused(NONE, () -> {
            EveningOrder x = full();
            x.sheet(0, 0, 0);
            return x;
        }, act, numbers(0, 0, rest));
    }

    /** No numbers, more than 12, numbers of no PIECES, one that stands twice. */
    static void asksForARow(String act, long... rest) {
        refused(KIND, fullWith(), act, numbers(0, 0, rest));
        refused(KIND, fullWith(0, 1, 2, 3, 4, 5), act, numbers(0, 0, rest));
        refused(KIND, fullWith(0, 1, 5), act, numbers(0, 0, rest));
        refused(KIND, fullWith(0, 1, -1), act, numbers(0, 0, rest));
        refused(KIND, fullWith(1, 2, 1), act, numbers(0, 0, rest));
        refused(KIND, fullWith(2, 1, 1), act, numbers(0, 0, rest));
        EveningOrder x = plainPieces(12);
        x.liking(3, 1, 1);
        row(x, 0, 0, 1, 2, 3, 4, 5, 6, 7, 8, 9, 10, 11, 0);
        due(KIND, x, act, numbers(0, 0, rest));
        row(x, 0, 11, 10, 9, 8, 7, 6, 5, 4, 3, 2, 1, 12);
        due(KIND, x, act, numbers(0, 0, rest));
        x.sheet(0, 8, 24);
        due(KIND, x, act, numbers(0, 0, rest));
        due(KIND, full(), act, numbers(2, 0, rest));
    }

    /** THE INTERVAL stands nowhere, or behind 1 or more, fewer than there are. */
    static void asksWhereTheIntervalStands(String act, long... rest) {
        refused(KIND, Checks::full, act, numbers(0, -1, rest));
        refused(KIND, Checks::full, act, numbers(0, 5, rest));
        due(KIND, full(), act, numbers(0, 6, rest));
        due(KIND, full(), act, numbers(0, MIN, rest));
        due(KIND, full(), act, numbers(0, MAX, rest));
        EveningOrder x = full();
        row(x, 0, 3);
        due(KIND, x, act, numbers(0, 1, rest));
        due(KIND, x, act, numbers(0, -1, rest));
    }

    // ---- acts that take a set of PIECES: the set, then the rest of their numbers

    private static long[] ofSet(long set, long... rest) {
        long[] a = new long[1 + rest.length];
        a[0] = set;
        System.arraycopy(rest, 0, a, 1, rest.length);
        return a;
    }

    /** Bits of no PIECES, which are asked ahead of how many there are. */
    static void asksForPieces(String act, long... rest) {
        for (long set : new long[] {1 << 5, 1 << 5 | 1, 127, -1, MIN, MAX}) {
            due(BEYOND, full(), act, ofSet(set, rest));
        }
        due(BEYOND, plainPieces(12), act, ofSet(1 << 12, rest));
        due(BEYOND, plainPieces(12), act, ofSet(1 << 12 | 1, rest));
        due(BEYOND, plainPieces(6), act, ofSet(127, rest));
    }

    /** One PIECE at least, and no more than so many. */
    static void asksHowMany(String act, int most, long... rest) {
        due(KIND, full(), act, ofSet(0, rest));
        due(KIND, plainPieces(12), act, ofSet((1 << most + 1) - 1, rest));
        due(KIND, plainPieces(12), act, ofSet(1 << 11 | (1 << most) - 1, rest));
        due(KIND, plainPieces(12), act, ofSet((1 << 12) - 1, rest));
    }

    // ---- tests named by their promise

    /** Runs each method whose name is promise, two digits and more; each of these promises must have one. */
    static void runAll(Class<?> tests, int first, int last) {
        TreeMap<String, Method> named = new TreeMap<>();
        for (Method m : tests.getDeclaredMethods()) {
            if (m.getName().matches("promise\\d\\d_\\w+") && m.getParameterCount() == 0) {
                named.put(m.getName(), m);
            }
        }
        for (Method m : named.values()) {
            running = m.getName() + ": ";
            try {
                m.setAccessible(true);
                m.invoke(null);
            } catch (IllegalAccessException | InvocationTargetException e) {
                wrong++;
                System.out.println(running + (e.getCause() == null ? e : e.getCause()));
            }
        }
        running = "";
        for (int promise = first; promise <= last; promise++) {
            String begins = String.format("promise%02d_", promise);
            String next = named.ceilingKey(begins);
            due("tests of promise " + promise, next != null && next.startsWith(begins) ? 1 : 0, 1);
        }
        finish(named.size() + " boundary cases of promises " + first + " to " + last);
    }

    static void finish(String what) {
        System.out.println(what + ": " + checked + " answers, " + wrong + " wrong");
        if (wrong != 0) {
            System.exit(1);
        }
    }

    // ---- evenings to begin with

    /** 10, 5, 20 minutes; KEYS 0, 7, 0; LOUD 1, 4, 2; PLAYERS 0, both, 1; THINGS 0, 0 and 1, 2; EFFORT 10, 20, 30. */
    static EveningOrder three() {
        EveningOrder x = new EveningOrder();
        x.piece(10001, 1, 1, 10);
        x.piece(5074, 3, 3, 20);
        x.piece(20002, 2, 4, 30);
        row(x, 0, 0, 1, 2);
        return x;
    }

    /** So many PIECES of one minute, LOUD by their number, without PLAYERS and THINGS. */
    static EveningOrder plainPieces(int n) {
        EveningOrder x = new EveningOrder();
        for (int i = 0; i < n; i++) {
            x.piece(1000 + i % 10, 0, 0, 0);
        }
        return x;
    }

    static void row(EveningOrder x, int sheet, int... pieces) {
        x.sheet(sheet, 8, pieces.length);
        for (int i = 0; i < pieces.length; i++) {
            x.put(sheet, i, pieces[i]);
        }
    }

    static void tape(EveningOrder x, String text) {
        for (int i = 0; i < text.length(); i++) {
            x.feed(text.charAt(i), 1);
        }
    }

    static int text(EveningOrder x, int liking, String text) {
        tape(x, text);
        return x.text(liking);
    }

    /** What a TEXT of NEXT comes to between LOUD 7 and LOUD 3, 5 KEYS apart, with 2 CARRIED. */
    static int comesTo(String text) {
        EveningOrder x = new EveningOrder();
        x.piece(1017, 0, 1, 0);
        x.piece(1083, 0, 2, 0);
        x.liking(1, 1, 1);
        row(x, 0, 0, 1);
        if (text(x, 0, text) < 0) {
            return MIN;
        }
        return x.worthBy(0, 0, 0);
    }

    /**
     * Something of everything: 5 PIECES, a LIKING of each KIND (one is off), 4 MUSTS, 2 PASTS, SHEETS of each width
     * (2 is no ROW, 3 is missing), p+ on THE TAPE, 2 numbers that wait, a TRACE, an IMAGE of an earlier state.
     */
    static EveningOrder full() {
        EveningOrder x = new EveningOrder();
        x.piece(12035, 3, 5, 10);
        x.piece(8034, 1, 1, 20);
        x.piece(20079, 6, 14, 15);
        x.piece(5032, 8, 0, 5);
        x.piece(15113, 3, 6, 30);
        for (int kind = 0; kind < 7; kind++) {
            x.liking(kind, kind - 3, kind + 1);
        }
        text(x, 1, "b-a*k");
        text(x, 3, "p*l");
        x.image();
        text(x, 5, "s<3");
        x.turn(2, false);
        x.rule(0, 2);
        x.rule(3, 60);
        x.must(0, 1, 0);
        x.must(2, 200, 60);
        x.must(5, 103, 0);
        x.must(3, 102, 0);
        row(x, 0, 0, 1, 2, 3, 4);
        x.sheet(1, 16, 2);
        x.put(1, 0, 4);
        x.put(1, 1, 3);
        x.sheet(2, 32, 13);
        x.past(0, 1, 1);
        x.past(1, 0, 0);
        x.tell(0);
        x.tell(1);
        x.voice(1, 2, 5);
        tape(x, "p+");
        return x;
    }
}
