import java.util.Arrays;
import java.util.Random;

/** Long runs of calls, always the same ones, whose answers EveningOrder and PlainEvening must share. */
public final class OracleTest {
    private static int wrong = 0;
    private static long calls = 0;

    private final Random random;
    private final int run;
    private final EveningOrder x = new EveningOrder();
    private final PlainEvening plain = new PlainEvening();
    private int made = 0;
    private boolean failed = false;
    private final StringBuilder story = new StringBuilder();

    private OracleTest(int run) {
        this.run = run;
        random = new Random(7919L * run + 13);
    }

    public static void main(String[] args) {
        int runs = args.length > 0 ? Integer.parseInt(args[0]) : 400;
        int first = args.length > 1 ? Integer.parseInt(args[1]) : 1;
        for (int run = first; run < first + runs; run++) {
            OracleTest test = new OracleTest(run);
            if (run % 4 == 0) {
                test.wildRun();
            } else {
                test.ordinaryRun();
            }
        }
        System.out.println(calls + " calls against the plain one, " + wrong + " wrong");
        if (wrong != 0) {
            System.exit(1);
        }
    }

    private long call(String name, long... a) {
        if (failed || made >= 512) {
            return 0;
        }
        made++;
        calls++;
        long due = plain.call(name, a);
        long got = Calls.call(x, name, a);
        story.append(name).append(Arrays.toString(a)).append(" = ").append(due).append('\n');
        if (got != due) {
            failed = true;
            wrong++;
            System.out.println("run " + run + ", call " + made + ": answered " + got + ", due at its end:\n" + story);
        }
        return due;
    }

    private int below(int n) {
        return n <= 0 ? 0 : random.nextInt(n);
    }

    /** From lo to hi, and sometimes a bit outside. */
    private int near(int lo, int hi) {
        if (below(25) == 0) {
            return below(2) == 0 ? lo - 1 - below(2) : hi + 1 + below(2);
        }
        return lo + below(hi - lo + 1);
    }

    private int pieces() {
        return (int) plain.peek("count", 0);
    }

    private int likings() {
        return (int) plain.peek("count", 1);
    }

    // ---- runs whose calls are mostly right

    private void ordinaryRun() {
        int pieces = 3 + below(run % 5 == 0 ? 10 : 5);
        for (int i = 0; i < pieces; i++) {
            makePiece();
        }
        int likings = 1 + below(8);
        for (int i = 0; i < likings; i++) {
            call("liking", below(7), near(-9, 9), near(1, 9));
            if (below(4) > 0) {
                makeText(i);
            }
        }
        for (int i = below(6); i > 0; i--) {
            makeMust();
        }
        if (below(2) == 0) {
            call("rule", 3, 10 + below(120));
        }
        for (int i = 0; i < 4; i++) {
            makeRow(i);
        }
        int left = 60 + below(120);
        for (int i = 0; i < left; i++) {
            ordinaryCall();
        }
        for (int k = 0; k <= 7; k++) {
            call("told", k);
        }
        for (int k = 0; k <= 8; k++) {
            call("count", k);
        }
    }

    private void makePiece() {
        int keys = run % 3 == 0 ? 2 : 12;
        int minutes = run % 2 == 0 ? 1 + below(6) : 1 + below(60);
        int sound = 1000 * minutes + 10 * below(keys) + below(10);
        int effort = run % 2 == 0 ? below(20) : near(0, 99);
        int some = run % 3 == 1 ? 3 : 255;
        call("piece", sound, random.nextInt(256) & (below(2) == 0 ? 7 : 255), random.nextInt(256) & some, effort);
    }

    private void makeMust() {
        int n = pieces();
        call("must", near(0, 7), 100 * near(0, n - 1) + below(n), below(4) == 0 ? near(0, 999) : near(0, 120));
    }

    private void feedAll(String text) {
        for (int i = 0; i < text.length(); i += 8) {
            long word = random.nextLong();
            int n = Math.min(8, text.length() - i);
            for (int j = 0; j < n; j++) {
                word = word & ~(255L << 8 * j) | (long) text.charAt(i + j) << 8 * j;
            }
            call("feed", word, n);
        }
    }

    private void makeText(int liking) {
        // the KIND isn't asked: half of what is tried fits none, which is as it should be
        String[] names = {"abks", "m", "pnlij", "t"};
        String own = names[below(4)];
        for (int kind = 1; kind <= 4; kind++) {
            if (below(8) > 0 && plain.peek("as", liking, kind) > PlainEvening.LOW) {
                own = names[kind - 1];
            }
        }
        String text = textOf(own, 1 + below(4));
        if (text.length() > 50) {
            text = text.substring(0, 50);
        }
        if (below(6) == 0) {
            int at = below(text.length() + 1);
            String odd = "()?:+-*/<=09abksmpnlijt x" + (char) 200;
            int to = Math.min(text.length(), at + below(2));
            text = text.substring(0, at) + odd.charAt(below(odd.length())) + text.substring(to);
        }
        text = text.length() > 50 ? text.substring(0, 50) : text;
        feedAll(text);
        call("text", liking);
    }

    private String textOf(String names, int depth) {
        String text = sumOf(names, depth);
        return depth > 0 && below(5) == 0
                ? text + "?" + textOf(names, depth - 1) + ":" + textOf(names, depth - 1) : text;
    }

    private String sumOf(String names, int depth) {
        StringBuilder text = new StringBuilder();
        String signs = "+-*/<=";
        for (int i = below(3); i >= 0; i--) {
            text.append(oneOf(names, depth));
            if (i > 0) {
                text.append(signs.charAt(below(6)));
            }
        }
        return text.toString();
    }

    private String oneOf(String names, int depth) {
        int way = below(8);
        if (depth > 0 && way == 0) {
            return "(" + textOf(names, depth - 1) + ")";
        }
        if (depth > 0 && way == 1) {
            return "-" + oneOf(names, depth - 1);
        }
        return way < 4 ? "" + below(way == 2 ? 10 : 100) : "" + names.charAt(below(names.length()));
    }

    private void makeRow(int sheet) {
        int n = 1 + below(Math.min(12, pieces()));
        if (below(5) == 0) {
            n = Math.min(12, pieces());
        }
        call("sheet", sheet, new int[] {8, 8, 16, 32}[below(4)], n);
        int[] order = new int[Math.max(1, pieces())];
        for (int i = 0; i < order.length; i++) {
            order[i] = i;
        }
        for (int i = 0; i < n && i < order.length; i++) {
            int j = i + below(order.length - i);
            int v = order[j];
            order[j] = order[i];
            order[i] = v;
            call("put", sheet, i, v + (below(40) == 0 ? 65536 : 0));
        }
    }

    private int set(int most) {
        int n = pieces();
        int set = 0;
        for (int i = below(most) + (below(30) == 0 ? 2 : 0); i >= 0; i--) {
            set |= 1 << below(n);
        }
        int odd = below(40);
        return odd == 0 ? 0 : odd == 1 ? set | 1 << n : odd == 2 ? set | Integer.MIN_VALUE : set;
    }

    private int searched() {
        return set(below(12) == 0 ? 7 : 4);
    }

    private void ordinaryCall() {
        int sheet = near(0, 3);
        int interval = near(0, below(2) == 0 ? 0 : 4);
        switch (below(36)) {
            case 0: call("pieceIs", near(0, pieces() - 1), near(0, 5)); break;
            case 1: call("rule", near(0, 2), near(0, 9)); break;
            case 2: call("rule", 3, below(3) == 0 ? 999 : near(5, 150)); break;
            case 3: call("turn", near(0, likings() - 1), below(2)); break;
            case 4: call("as", near(0, likings() - 1), near(0, 6)); break;
            case 5: makeMust(); break;
            case 6: makeText(below(likings())); break;
            case 7: call("worth", sheet, interval, 0); call("worth", sheet, interval, 1); break;
            case 8: case 9: case 10: call("worthBy", sheet, interval, near(0, likings() - 1)); break;
            case 11: call("tired", sheet, interval, near(0, 7), near(0, 5)); break;
            case 12: case 13: call("judge", sheet, interval, near(0, 4)); break;
            case 14: call("begins", sheet, interval, near(0, 5)); break;
            case 15: case 16: callsOfSet(searched()); break;
            case 17: call("bars", searched()); break;
            case 18: call("fewest", set(below(6) == 0 ? 10 : 6), near(-1, 6)); break;
            case 19: call("better", sheet, interval); break;
            case 20: call("slides", sheet, interval, near(1, 20)); break;
            case 21: case 22: callsOfIll(sheet, interval); break;
            case 23: call("two", below(3) == 0 ? near(1, 999) : near(1, 150)); break;
            case 24: case 25: call("past", sheet, near(0, 3), interval); break;
            case 26: call("plain", near(-1, 0)); break;
            case 27: call("voice", near(0, likings() - 1), near(0, 3), random.nextInt() >> below(32)); break;
            case 28: call("trace", near(0, 14)); break;
            case 29: makeRow(below(4)); break;
            case 30: call("get", sheet, near(0, 12)); break;
            case 31: call("move", sheet, near(0, 3), near(0, 3), near(0, 3), near(0, 3)); break;
            case 32: call(below(3) == 0 ? "restore" : "image"); break;
            case 33: checks(searched()); break;
            case 34: call("count", near(0, 7)); break;
            default: call("liking", near(0, 6), near(-9, 9), near(1, 9)); break;
        }
    }

    private void callsOfSet(int set) {
        for (int what = -1; what < 4; what++) {
            call("best", set, what);
        }
        call("most", set, near(0, 1));
        call("equals", set, near(0, 2));
        call("equals", set, 2);
    }

    private void callsOfIll(int sheet, int interval) {
        int out = near(0, 3);
        for (int what = -2; what < 3; what++) {
            call("ill", sheet, interval, out, what);
        }
        call("ill", sheet, interval, out, near(-2, 6));
    }

    private void checks(int set) {
        for (int i = 0; i < 6; i++) {
            long piece = plain.peek("best", set, i);
            if (piece >= 0 && below(12) > 0) {
                call("tell", piece);
            }
        }
        if (below(6) == 0) {
            call("tell", near(0, 12));
        }
        call("check", set);
    }

    // ---- runs of any calls with any numbers

    private void wildRun() {
        for (int i = 0; i < 512 && !failed; i++) {
            String name = Calls.NAMES[below(Calls.NAMES.length)];
            if (below(8) == 0) {
                makePiece();
            } else if (below(8) == 0) {
                makeRow(below(4));
            } else {
                call(name, wild(), wild(), wild(), wild(), wild());
            }
        }
    }

    private long wild() {
        switch (below(12)) {
            case 0: return random.nextInt();
            case 1: return Integer.MIN_VALUE + below(2);
            case 2: return Integer.MAX_VALUE - below(2);
            case 3: return -1 - below(3);
            case 4: return 1 << below(12);
            case 5: return 8L << below(3);
            case 6: return 100 * below(8) + below(8);
            default: return below(8);
        }
    }
}
