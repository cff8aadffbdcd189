/** Promise by promise: ordinary inputs, the edges that the document names, wrong inputs. */
public final class PromisesTest extends Checks {
    public static void main(String[] args) {
        aNewObject();
        piece();
        pieceIs();
        rule();
        liking();
        turn();
        as();
        must();
        mustsOfEachSort();
        mustsWithPiecesThatAreNotThere();
        feed();
        text();
        textFaults();
        textsOpenAtOnce();
        textsComeTo();
        worth();
        worthBy();
        worthByWraps();
        tired();
        judge();
        begins();
        best();
        bestOfSeveral();
        most();
        equalsAndFixed();
        bars();
        fewest();
        better();
        slides();
        ill();
        illAndTheInterval();
        two();
        past();
        plain();
        voice();
        trace();
        sheet();
        put();
        get();
        move();
        imageAndRestore();
        tell();
        check();
        count();
        told();
        errorsChangeNothing();
        finish("the promises");
    }

    // ---- promises 1 to 10

    private static void aNewObject() {
        EveningOrder x = new EveningOrder();
        for (int what = 0; what < 8; what++) {
            due(0, x, "count", what);
        }
        for (int k = 1; k <= 6; k++) {
            due(0, x, "told", k);
        }
        for (int sheet = 0; sheet < 4; sheet++) {
            due(NONE, x, "get", sheet, 0);
        }
        due(NONE, x, "restore");
        due(NONE, x, "trace", 0);
        due(1, x, "rule", 0, 1);
        due(1, x, "rule", 1, 1);
        due(20, x, "rule", 2, 20);
        due(999, x, "rule", 3, 999);
    }

    private static void piece() {
        EveningOrder x = new EveningOrder();
        due(0, x, "piece", 1000, 0, 0, 0);
        due(1, x, "piece", 60119, 255, 255, 99);
        due(BEYOND, x, "piece", 999, 0, 0, 0);
        due(BEYOND, x, "piece", 61000, 0, 0, 0);
        due(BEYOND, x, "piece", 1120, 0, 0, 0);
        due(BEYOND, x, "piece", 1999, 0, 0, 0);
        due(BEYOND, x, "piece", -1000, 0, 0, 0);
        due(BEYOND, x, "piece", MIN, 0, 0, 0);
        due(BEYOND, x, "piece", MAX, 0, 0, 0);
        due(BEYOND, x, "piece", 1000, -1, 0, 0);
        due(BEYOND, x, "piece", 1000, 256, 0, 0);
        due(BEYOND, x, "piece", 1000, 0, -1, 0);
        due(BEYOND, x, "piece", 1000, 0, 256, 0);
        due(BEYOND, x, "piece", 1000, 0, 0, -1);
        due(BEYOND, x, "piece", 1000, 0, 0, 100);
        for (int i = 2; i < 12; i++) {
            due(i, x, "piece", 1000, 0, 0, 0);
        }
        due(FULL, x, "piece", 1000, 0, 0, 0);
        due(BEYOND, x, "piece", 999, 0, 0, 0);
        due(12, x, "count", 0);
    }

    private static void pieceIs() {
        EveningOrder x = new EveningOrder();
        due(BEYOND, x, "pieceIs", 0, 0);
        x.piece(60119, 255, 254, 99);
        x.piece(7083, 4, 1, 6);
        long[] first = {60, 11, 9, 255, 254, 99};
        long[] second = {7, 8, 3, 4, 1, 6};
        for (int what = 0; what < 6; what++) {
            due(first[what], x, "pieceIs", 0, what);
            due(second[what], x, "pieceIs", 1, what);
        }
        due(BEYOND, x, "pieceIs", 2, 0);
        due(BEYOND, x, "pieceIs", -1, 0);
        due(BEYOND, x, "pieceIs", 0, 6);
        due(BEYOND, x, "pieceIs", 0, -1);
    }

    private static void rule() {
        EveningOrder x = new EveningOrder();
        long[] before = {1, 1, 20, 999};
        long[] greatest = {9, 9, 60, 999};
        for (int what = 0; what < 4; what++) {
            due(BEYOND, x, "rule", what, -1);
            due(BEYOND, x, "rule", what, greatest[what] + 1);
            due(before[what], x, "rule", what, 0);
            due(0, x, "rule", what, greatest[what]);
            due(greatest[what], x, "rule", what, 5);
        }
        due(BEYOND, x, "rule", 4, 0);
        due(BEYOND, x, "rule", -1, 0);
        due(BEYOND, x, "rule", MIN, MAX);
    }

    private static void liking() {
        EveningOrder x = new EveningOrder();
        due(BEYOND, x, "liking", -1, 1, 1);
        due(BEYOND, x, "liking", 7, 1, 1);
        due(BEYOND, x, "liking", 1, -10, 1);
        due(BEYOND, x, "liking", 1, 10, 1);
        due(BEYOND, x, "liking", 1, 1, 0);
        due(BEYOND, x, "liking", 1, 1, 10);
        for (int i = 0; i < 10; i++) {
            due(i, x, "liking", i % 7, i % 2 == 0 ? 9 : -9, i % 2 == 0 ? 9 : 1);
        }
        due(FULL, x, "liking", 0, 1, 1);
        due(BEYOND, x, "liking", 7, 1, 1);
        due(10, x, "count", 1);
        due(10, x, "count", 2);
    }

    private static void turn() {
        EveningOrder x = three();
        x.liking(2, 1, 1);
        due(0, x, "turn", 0, 1);
        due(9, x, "worth", 0, 0, 0);
        due(1, x, "turn", 0, 0);
        due(0, x, "turn", 0, 0);
        due(0, x, "worth", 0, 0, 0);
        due(0, x, "count", 2);
        due(1, x, "turn", 0, 1);
        due(9, x, "worth", 0, 0, 0);
        due(BEYOND, x, "turn", 1, 1);
        due(BEYOND, x, "turn", -1, 0);
    }

    private static void as() {
        EveningOrder x = new EveningOrder();
        for (int kind = 0; kind < 7; kind++) {
            x.liking(kind, kind - 3, kind + 1);
        }
        for (int of = 0; of < 7; of++) {
            for (int kind = 0; kind < 7; kind++) {
                boolean is = kind == of || kind == 0 || of == 5 && kind == 1;
                due(is ? 100 * (of - 3) + of + 1 : KIND, x, "as", of, kind);
            }
        }
        due(BEYOND, x, "as", 7, 0);
        due(BEYOND, x, "as", -1, 0);
        due(BEYOND, x, "as", 0, 7);
        due(BEYOND, x, "as", 0, -1);
    }

    private static void must() {
        EveningOrder x = plainPieces(12);
        due(BEYOND, x, "must", -1, 1, 0);
        due(BEYOND, x, "must", 8, 1, 0);
        due(BEYOND, x, "must", 0, 12, 0);
        due(BEYOND, x, "must", 0, 1200, 0);
        due(BEYOND, x, "must", 0, 0, 0);
        due(BEYOND, x, "must", 3, 1111, 0);
        due(BEYOND, x, "must", 3, 12, 0);
        due(BEYOND, x, "must", 0, -1, 0);
        due(BEYOND, x, "must", 0, -100, 0);
        due(BEYOND, x, "must", 0, MIN, 0);
        due(BEYOND, x, "must", 0, MAX, 0);
        due(BEYOND, x, "must", 0, 1, -1);
        due(BEYOND, x, "must", 0, 1, 1000);
        due(0, x, "must", 2, 1, 999);
        due(1, x, "must", 7, 1110, 0);
        for (int i = 2; i < 10; i++) {
            due(i, x, "must", i % 8, 100 * i, i);
        }
        due(FULL, x, "must", 0, 1, 0);
        due(BEYOND, x, "must", 0, 0, 0);
        due(10, x, "count", 3);
    }

    /** With one MUST alone: whether it is broken by the ROW 0, 1, 2, 3 of one minute each. */
    private static void broken(boolean is, int sort, int a, int b, int m, int interval) {
        EveningOrder x = plainPieces(4);
        x.rule(2, 10);
        x.must(sort, 100 * a + b, m);
        row(x, 0, 0, 1, 2, 3);
        String what = "MUST " + sort + " of " + a + ", " + b + ", " + m + ", interval " + interval;
        due(what, x.judge(0, interval, 3), is ? 1 : 0);
        due(what + ", GOOD", x.judge(0, interval, 4), is ? 0 : 1);
    }

    private static void mustsOfEachSort() {
        broken(true, 0, 1, 0, 0, 0);
        broken(true, 0, 1, 0, 0, 1);
        broken(false, 0, 0, 1, 0, 0);
        broken(false, 0, 2, 0, 0, 0);
        broken(false, 1, 1, 0, 0, 0);
        broken(false, 1, 0, 1, 0, 2);
        broken(true, 1, 0, 1, 0, 1);
        broken(true, 1, 1, 0, 0, 1);
        broken(true, 1, 0, 2, 0, 0);
        broken(false, 2, 1, 0, 2, 0);
        broken(true, 2, 1, 0, 1, 0);
        broken(false, 2, 1, 0, 12, 1);
        broken(true, 2, 1, 0, 11, 1);
        broken(true, 3, 0, 1, 0, 0);
        broken(false, 3, 1, 0, 0, 1);
        broken(true, 4, 3, 1, 0, 0);
        broken(false, 4, 1, 0, 0, 2);
        broken(false, 5, 0, 3, 0, 0);
        broken(true, 5, 3, 0, 0, 2);
        broken(true, 6, 2, 0, 0, 2);
        broken(false, 6, 2, 0, 0, 1);
        broken(false, 6, 2, 0, 0, 3);
        broken(false, 6, 0, 1, 0, 0);
        broken(false, 7, 1, 0, 0, 2);
        broken(true, 7, 2, 0, 0, 2);
        broken(true, 7, 3, 0, 0, 1);
        broken(false, 7, 3, 0, 0, 0);
    }

    private static void mustsWithPiecesThatAreNotThere() {
        EveningOrder x = plainPieces(4);
        x.must(1, 3, 0);
        x.must(5, 300, 0);
        x.must(0, 103, 0);
        x.must(3, 3, 0);
        x.must(4, 103, 0);
        row(x, 0, 0, 1);
        due(8 + 16, x, "judge", 0, 0, 3);
        row(x, 0, 2, 1, 0);
        due(0, x, "judge", 0, 0, 3);
    }

    private static void feed() {
        EveningOrder x = new EveningOrder();
        x.liking(3, 1, 1);
        due(BEYOND, x, "feed", 0, 0);
        due(BEYOND, x, "feed", 0, 9);
        due(BEYOND, x, "feed", 0, -1);
        due(BEYOND, x, "feed", 0, MIN);
        // p*p+l-1 lowest byte first; the eighth isn't taken
        long word = 0x7F312D6C2B702A70L;
        due(7, x, "feed", word, 7);
        due(3, x, "text", 0);
        for (int i = 1; i <= 6; i++) {
            due(8 * i, x, "feed", -1, 8);
        }
        due(FULL, x, "feed", 0, 3);
        due(48, x, "count", 5);
        due(50, x, "feed", 0, 2);
        due(FULL, x, "feed", 0, 1);
        due(BEYOND, x, "feed", 0, 9);
        due(-10, x, "text", 0);
        due(0, x, "count", 5);
    }

    private static void text() {
        EveningOrder x = three();
        for (int kind = 0; kind < 7; kind++) {
            x.liking(kind, 1, 1);
        }
        tape(x, "1");
        due(BEYOND, x, "text", 7);
        due(BEYOND, x, "text", -1);
        due(KIND, x, "text", 0);
        due(KIND, x, "text", 6);
        due(1, x, "count", 5);
        due(0, x, "text", 1);
        due(0, x, "count", 5);
        due(2, x, "worthBy", 0, 0, 1);
        // one that is wrong leaves the one ahead, and THE TAPE is empty all the same
        due("wrong text", text(x, 1, "2+x"), -12);
        due(0, x, "count", 5);
        due(2, x, "worthBy", 0, 0, 1);
        due("text in place of one ahead", text(x, 1, "5"), 0);
        due(10, x, "worthBy", 0, 0, 1);
        due("all signs", text(x, 1, "-(a+b-k)*s/2<3=4?1:0"), 8);
        due("NAMES of NEXT", text(x, 1, "a+b+k+s"), 3);
        due("NAMES of SINCE", text(x, 2, "m"), 0);
        due("NAMES of PLACE", text(x, 3, "p+n+l+i+j"), 4);
        due("NAMES of TIRED", text(x, 4, "t"), 0);
        due("NAMES of STAGE", text(x, 5, "a+b+k+s"), 3);
    }

    private static void fault(int kind, String text, int place) {
        EveningOrder x = new EveningOrder();
        x.liking(kind, 1, 1);
        due("text " + text, text(x, 0, text), -10 - place);
    }

    private static void textFaults() {
        fault(1, "", 0);
        fault(1, "a+", 2);
        fault(1, "(a", 2);
        fault(1, "a?b", 3);
        fault(1, "a?b:", 4);
        fault(1, "-", 1);
        fault(1, "123", 2);
        fault(1, "(123)", 3);
        fault(1, "1a", 1);
        fault(1, "ab", 1);
        fault(1, "a b", 1);
        fault(1, " a", 0);
        fault(1, "a)", 1);
        fault(1, "a:b", 1);
        fault(1, "()", 1);
        fault(1, "a++b", 2);
        fault(1, "a?b)c", 3);
        fault(1, "(a?b:k", 6);
        fault(1, "a?b:k:s", 5);
        fault(1, "a?b:c", 4);
        fault(1, "(a:b)", 2);
        fault(1, "a>b", 1);
        fault(1, "A", 0);
        fault(1, "a" + (char) 225, 1);
        fault(1, "m", 0);
        fault(1, "t", 0);
        fault(2, "a", 0);
        fault(2, "m*p", 2);
        fault(3, "p+k", 2);
        fault(3, "s", 0);
        fault(4, "m", 0);
        fault(5, "a+t", 2);
        fault(5, "i", 0);
    }

    private static void textsOpenAtOnce() {
        EveningOrder x = new EveningOrder();
        x.liking(1, 1, 1);
        due("5 minus", text(x, 0, "-----a"), 5);
        due("6 minus", text(x, 0, "------a"), -15);
        due("5 braces", text(x, 0, "(((((a)))))"), 0);
        due("6 braces", text(x, 0, "((((((a))))))"), -15);
        due("5 choices in second", text(x, 0, "a?a:a?a:a?a:a?a:a?a:a"), 5);
        due("6 choices in second", text(x, 0, "a?a:a?a:a?a:a?a:a?a:a?a:a"), -31);
        due("5 choices in first", text(x, 0, "a?a?a?a?a?1:2:3:4:5:6"), 5);
        due("6 choices in first", text(x, 0, "a?a?a?a?a?a?1:2:3:4:5:6:7"), -21);
        due("a choice ends with its second", text(x, 0, "(((((a)))))?(((a?1:2))):a?a:a"), 3);
        due("mixed, 5", text(x, 0, "-(-(a?1:2))"), 3);
        due("mixed, 6", text(x, 0, "-(-(-(a)))"), -15);
        due("mixed, 6 by ?", text(x, 0, "-(-((a?1:2)))"), -16);
        due("a minus ends with its one", text(x, 0, "-a?-a?-a:-a:-a"), 7);
        due("between two operands - is never open", text(x, 0, "-----a-a-a-a"), 8);
        due("50 bytes", text(x, 0, "1+1+1+1+1+1+1+1+1+1+1+1+1+1+1+1+1+1+1+1+1+1+1+1+99"), 24);
        due("50 bytes, too early", text(x, 0, "1+1+1+1+1+1+1+1+1+1+1+1+1+1+1+1+1+1+1+1+1+1+1+1+1+"), -60);
    }

    private static void textsComeTo() {
        due("a", comesTo("a"), 7);
        due("b", comesTo("b"), 3);
        due("k", comesTo("k"), 5);
        due("s", comesTo("s"), 2);
        due("left to right", comesTo("10-4-3"), 3);
        due("products first", comesTo("2+3*4"), 14);
        due("products from the left", comesTo("7/2*2"), 6);
        due("< among products", comesTo("2*3<7"), 1);
        due("< ahead of *", comesTo("2<3*5"), 5);
        due("= among products", comesTo("3=3+1"), 2);
        due("< of equals", comesTo("3<3"), 0);
        due("= of unlikes", comesTo("3=2"), 0);
        due("minus binds closest", comesTo("-7/2"), -3);
        due("cut toward 0", comesTo("(0-7)/2"), -3);
        due("by 0", comesTo("7/0"), 0);
        due("by 0 from a name", comesTo("9/(a-7)+1"), 1);
        due("braces", comesTo("(2+3)*4"), 20);
        due("choice, first", comesTo("a=7?10:20"), 10);
        due("choice, second", comesTo("a=8?10:20"), 20);
        due("any but 0 is yes", comesTo("0-1?10:20"), 10);
        due("choice in second", comesTo("0?1:0?2:3"), 3);
        due("choice in first", comesTo("1?0?5:6:7"), 6);
        due("choice takes the whole sum", comesTo("1+1-2?10:20+5"), 25);
        due("two digits", comesTo("07+99"), 106);
        due("wraps", comesTo("99*99*99*99*99"), (int) 9509900499L);
        due("minus of minus", comesTo("--a"), 7);
    }

    // ---- promises 11 to 15

    private static void worth() {
        EveningOrder x = three();
        due(0, x, "worth", 0, 0, 0);
        due(1, x, "worth", 0, 0, 1);
        x.liking(2, 1, 6);
        x.liking(4, -1, 4);
        // 9 by 6 less 86 by 4
        due(-20, x, "worth", 0, 0, 0);
        due(1, x, "worth", 0, 0, 1);
        // 28 by 6 less (10 + 20 + 47) by 4
        due(-175, x, "worth", 0, 1, 0);
        due(12, x, "worth", 0, 1, 1);
        x.turn(1, false);
        due(14, x, "worth", 0, 1, 0);
        due(3, x, "worth", 0, 1, 1);
        due(BEYOND, x, "worth", -1, 0, 0);
        due(BEYOND, x, "worth", 4, 0, 0);
        due(BEYOND, x, "worth", 0, 0, -1);
        due(BEYOND, x, "worth", 1, 0, 2);
        due(NONE, x, "worth", 1, 9, 0);
        due(KIND, x, "worth", 0, 3, 0);
        due(KIND, x, "worth", 0, -1, 0);
        due(KIND, x, "worth", 0, MIN, 0);
        noRows(x);
    }

    private static void noRows(EveningOrder x) {
        row(x, 0, 0, 1, 0);
        due(KIND, x, "worth", 0, 0, 0);
        row(x, 0, 0, 3);
        due(KIND, x, "worth", 0, 0, 0);
        row(x, 0, 0, -1);
        due(KIND, x, "worth", 0, 0, 0);
        row(x, 0);
        due(KIND, x, "worth", 0, 0, 0);
        row(x, 0, 2);
        due(0, x, "worth", 0, 0, 0);
        due(KIND, x, "worth", 0, 1, 0);
        x.sheet(0, 8, 13);
        due(KIND, x, "worth", 0, 0, 0);
        EveningOrder many = plainPieces(12);
        row(many, 0, 11, 10, 9, 8, 7, 6, 5, 4, 3, 2, 1, 0);
        due(12, many, "judge", 0, 0, 0);
        for (int i = 0; i < 10; i++) {
            many.liking(3, 1, 1);
            text(many, i, "1");
        }
        due(12, many, "worthBy", 0, 5, 9);
        due(120, many, "worth", 0, 5, 0);
        due(32, many, "judge", 0, 11, 0);
        due(KIND, many, "judge", 0, 12, 0);
    }

    private static void worthBy() {
        EveningOrder x = three();
        for (int kind = 0; kind < 7; kind++) {
            x.liking(kind, 9, 7);
        }
        x.must(3, 1, 0);
        x.must(4, 200, 0);
        x.must(4, 100, 0);
        long[][] bare = {{0, 0, 9, 0, 86, -4, -2}, {0, 0, 28, 0, 77, -3, -2}, {0, 0, 26, 0, 69, -1, -2}};
        for (int interval = 0; interval < 3; interval++) {
            for (int liking = 0; liking < 7; liking++) {
                due(bare[interval][liking], x, "worthBy", 0, interval, liking);
            }
        }
        text(x, 1, "b-a+10*k");
        text(x, 2, "m*2+1");
        text(x, 3, "p*10*10+l");
        text(x, 4, "t<29?1:0");
        text(x, 5, "s*3");
        long[][] told = {{0, 101, 19, 307, 1, 8, -2}, {0, 48, 57, 307, 2, 6, -2}, {0, 53, 53, 307, 1, 2, -2}};
        for (int interval = 0; interval < 3; interval++) {
            for (int liking = 0; liking < 7; liking++) {
                due(told[interval][liking], x, "worthBy", 0, interval, liking);
            }
        }
        x.turn(3, false);
        text(x, 3, "n*1+i*10*p+j*10*10*p");
        due(9 + 20, x, "worthBy", 0, 0, 3);
        due(9 + 20 + 100, x, "worthBy", 0, 1, 3);
        due(9 + 10 + 20 + 200, x, "worthBy", 0, 2, 3);
        due(BEYOND, x, "worthBy", 4, 0, 0);
        due(BEYOND, x, "worthBy", 1, 0, 7);
        due(BEYOND, x, "worthBy", 0, 0, -1);
        due(NONE, x, "worthBy", 1, 0, 0);
        due(KIND, x, "worthBy", 0, 3, 0);
        worthByEdges();
    }

    private static void worthByEdges() {
        EveningOrder x = new EveningOrder();
        x.piece(1000, 0, 0, 50);
        x.piece(2000, 1, 0, 50);
        x.piece(3000, 0, 0, 50);
        x.piece(4100, 0, 0, 50);
        x.liking(4, 1, 1);
        x.liking(2, 1, 1);
        x.liking(1, 1, 1);
        row(x, 0, 0, 3, 1, 2);
        // without PLAYERS it is 0, which its TEXT still is asked of
        due(50, x, "worthBy", 0, 0, 0);
        text(x, 0, "t+1");
        due(54, x, "worthBy", 0, 0, 0);
        // the latest of a KEY: 4 minutes from the first to the third, 0 from the third to the fourth
        due(4, x, "worthBy", 0, 0, 1);
        text(x, 1, "m=0");
        due(1, x, "worthBy", 0, 0, 1);
        // KEYS 0, 10, 0, 0: 2 is the lesser way round
        text(x, 2, "k");
        due(4, x, "worthBy", 0, 0, 2);
    }

    private static void worthByWraps() {
        EveningOrder x = plainPieces(3);
        x.liking(3, 1, 1);
        x.liking(3, -9, 1);
        row(x, 0, 0, 1, 2);
        // 2^15 * 2^15 * 2 wraps to the lowest int, three of which are one
        text(x, 0, "32*32*32*32*32*32*2");
        text(x, 1, "32*32*32*32*32*32*2");
        due(MIN, x, "worthBy", 0, 0, 0);
        due(8L * (1L << 31), x, "worth", 0, 0, 0);
        // an answer within the ERRORS is no ERROR
        text(x, 0, "p?0:-99*99*99-99*99*3-23*99-1*24-0+1");
        due("as low as an ERROR", x.worthBy(0, 0, 0), -970299 - 29403 - 2277 - 24 + 1);
        text(x, 0, "p?0:-99*99*99-99*99*3-99*3-0-2");
        due(-1000001, x, "worthBy", 0, 0, 0);
        due(0, x, "told", 1);
    }

    private static void tired() {
        EveningOrder x = three();
        long[][] behind = {{10, 29, 6}, {10, 20, 0}, {10, 29, 0}};
        long[][] other = {{0, 20, 47}, {0, 20, 47}, {0, 20, 30}};
        for (int interval = 0; interval < 3; interval++) {
            for (int i = 0; i < 3; i++) {
                due(behind[interval][i], x, "tired", 0, interval, 0, i);
                due(other[interval][i], x, "tired", 0, interval, 1, i);
                due(0, x, "tired", 0, interval, 7, i);
            }
        }
        x.rule(1, 0);
        due(30, x, "tired", 0, 0, 0, 2);
        x.rule(1, 2);
        due(8 + 20, x, "tired", 0, 0, 0, 1);
        x.rule(0, 9);
        due(20, x, "tired", 0, 0, 0, 1);
        due(BEYOND, x, "tired", 4, 0, 0, 0);
        due(BEYOND, x, "tired", 1, 0, 8, 0);
        due(BEYOND, x, "tired", 0, 0, -1, 0);
        due(NONE, x, "tired", 1, 0, 0, 9);
        due(KIND, x, "tired", 0, 3, 0, 9);
        due(BEYOND, x, "tired", 0, 0, 0, 3);
        due(BEYOND, x, "tired", 0, 0, 0, -1);
    }

    private static void judge() {
        EveningOrder x = three();
        long[] ends = {39, 58, 56};
        long[] most = {47, 47, 30};
        for (int interval = 0; interval < 3; interval++) {
            due(ends[interval], x, "judge", 0, interval, 0);
            due(4, x, "judge", 0, interval, 1);
            due(most[interval], x, "judge", 0, interval, 2);
            due(0, x, "judge", 0, interval, 3);
            due(1, x, "judge", 0, interval, 4);
        }
        x.rule(3, 46);
        due(0, x, "judge", 0, 0, 4);
        due(1, x, "judge", 0, 2, 4);
        x.rule(3, 47);
        due(1, x, "judge", 0, 0, 4);
        x.must(2, 200, 40);
        x.must(5, 1, 0);
        x.must(5, 100, 0);
        due(4, x, "judge", 0, 0, 3);
        due(5, x, "judge", 0, 1, 3);
        due(0, x, "judge", 0, 0, 4);
        due(BEYOND, x, "judge", 0, 0, 5);
        due(BEYOND, x, "judge", 0, 0, -1);
        due(BEYOND, x, "judge", -1, 0, 0);
        due(NONE, x, "judge", 3, 0, 0);
        due(KIND, x, "judge", 0, 3, 0);
    }

    private static void begins() {
        EveningOrder x = three();
        long[][] at = {{0, 11, 19}, {0, 30, 38}, {0, 11, 36}};
        for (int interval = 0; interval < 3; interval++) {
            for (int i = 0; i < 3; i++) {
                due(at[interval][i], x, "begins", 0, interval, i);
            }
        }
        x.rule(0, 0);
        x.rule(2, 0);
        due(15, x, "begins", 0, 1, 2);
        x.rule(0, 9);
        due(10 + 9 + 5 + 0, x, "begins", 0, 2, 2);
        due(BEYOND, x, "begins", 9, 0, 0);
        due(NONE, x, "begins", 2, 0, 9);
        due(KIND, x, "begins", 0, 7, 9);
        due(BEYOND, x, "begins", 0, 0, 3);
        due(BEYOND, x, "begins", 0, 0, -1);
    }

    // ---- promises 16 to 24

    private static void best() {
        EveningOrder x = plainPieces(8);
        x.liking(3, 1, 1);
        // most with the loud ones late, and no gap else
        text(x, 0, "p*l");
        due(0, x, "best", 0b101010, -1);
        due(1, x, "best", 0b101010, 0);
        due(3, x, "best", 0b101010, 1);
        due(5, x, "best", 0b101010, 2);
        due(NONE, x, "best", 0b101010, 3);
        due(NONE, x, "best", 0b101010, MAX);
        due(7, x, "best", 0b10000000, 0);
        due(0, x, "best", 0b10000000, -1);
        text(x, 0, "i*l");
        // one more is right ahead of THE INTERVAL; without that, LOUD 0 is worth nothing there
        due(1, x, "best", 0b110, -1);
        due(0, x, "best", 0b011, -1);
        due(5, x, "best", 0b111111, -1);
        for (int i = 0; i < 6; i++) {
            due(i, x, "best", 0b111111, i);
        }
        due(BEYOND, x, "best", 1 << 8, 0);
        due(BEYOND, x, "best", MIN, 0);
        due(BEYOND, x, "best", 0, -2);
        due(BEYOND, x, "best", 127, -2);
        due(KIND, x, "best", 0, 9);
        due(KIND, x, "best", 127, 0);
        x.must(3, 1, 0);
        x.must(3, 100, 0);
        due(NONE, x, "best", 0b11, 0);
        due(NONE, x, "best", 0b11, -1);
        due(2, x, "best", 0b101, 0);
        due(BEYOND, new EveningOrder(), "best", 1, 0);
        due(KIND, new EveningOrder(), "best", 0, 0);
        bestHangsOnAll();
    }

    /** What best() tells changes with each of the things it hangs on. */
    private static void bestHangsOnAll() {
        EveningOrder x = three();
        x.liking(2, 1, 1);
        due(1, x, "best", 7, -1);
        x.rule(2, 0);
        due(0, x, "best", 7, -1);
        due(0, x, "best", 7, 0);
        x.image();
        x.must(3, 1, 0);
        due(2, x, "best", 7, 0);
        x.restore();
        due(0, x, "best", 7, 0);
        x.liking(1, 9, 1);
        text(x, 1, "a-b");
        // 2, then 1 and 0 behind THE INTERVAL: 3 times 9, and 6 minutes
        due(33, x, "most", 7, 0);
        due(2, x, "best", 7, 0);
        x.turn(1, false);
        due(0, x, "best", 7, 0);
        x.rule(3, 46);
        due(1, x, "best", 7, 0);
        x.rule(3, 999);
        due(0, x, "best", 7, 0);
        text(x, 0, "0-m");
        due(0, x, "best", 7, 0);
        due(2, x, "best", 7, 1);
        // what ill() goes through of the same PIECES isn't what best() does
        row(x, 1, 2, 0, 1);
        row(x, 2, 2, 1);
        due(2, x, "ill", 1, 0, 2, 0);
        due(0, x, "best", 5, 0);
        due(0, x, "best", 7, 0);
        due(2, x, "ill", 1, 0, 1, 0);
        due(NONE, x, "best", 6, 2);
        due(1, x, "best", 6, 0);
    }

    private static void bestOfSeveral() {
        EveningOrder x = plainPieces(4);
        for (int i = 0; i < 4; i++) {
            due(i, x, "best", 15, i);
        }
        due(0, x, "best", 15, -1);
        // two of the least LOUD first: by places' numbers ahead of where THE INTERVAL stands
        x.liking(3, 1, 1);
        text(x, 0, "(p=1)*(l<2)+j-1");
        due(1, x, "best", 15, 1);
        due(0, x, "best", 15, 0);
        due(1, x, "best", 15, -1);
    }

    private static void most() {
        EveningOrder x = three();
        due(0, x, "most", 7, 0);
        due(1, x, "most", 7, 1);
        x.liking(2, 2, 6);
        // 0, 1, 2 with THE INTERVAL behind 0: 28 minutes by 3
        due(28, x, "most", 7, 0);
        due(3, x, "most", 7, 1);
        due(0, x, "most", 3, 0);
        due(1, x, "most", 3, 1);
        due(BEYOND, x, "most", 8, 0);
        due(BEYOND, x, "most", 0, 2);
        due(BEYOND, x, "most", 7, -1);
        due(KIND, x, "most", 0, 0);
        x.rule(3, 5);
        due(NONE, x, "most", 7, 0);
        due(KIND, plainPieces(7), "most", 127, 0);
    }

    private static void equalsAndFixed() {
        EveningOrder x = plainPieces(7);
        due(24 * 4, x, "equals", 0b1111, 0);
        due(24 * 4, x, "equals", 0b1111, 1);
        due(0, x, "equals", 0b1111, 2);
        due(1, x, "equals", 0b1000, 0);
        due(8, x, "equals", 0b1000, 2);
        x.must(3, 1, 0);
        due(18 * 4, x, "equals", 0b1111, 0);
        x.liking(3, 1, 1);
        // 3 last is best, and 0 isn't first: 1, 0, 2, 3 and three others, with any interval
        text(x, 0, "p*(l=3)");
        due(18 * 4, x, "equals", 0b1111, 0);
        due(4 * 4, x, "equals", 0b1111, 1);
        due(8, x, "equals", 0b1111, 2);
        x.must(3, 100, 0);
        due(2 * 4, x, "equals", 0b1111, 1);
        due(8 + 4, x, "equals", 0b1111, 2);
        x.must(3, 200, 0);
        x.must(3, 300, 0);
        for (int what = 0; what < 3; what++) {
            due(0, x, "equals", 0b1111, what);
        }
        due(BEYOND, x, "equals", 0b1111, 3);
        due(BEYOND, x, "equals", 0, -1);
        due(BEYOND, x, "equals", 128, 0);
        due(KIND, x, "equals", 0, 0);
        due(KIND, x, "equals", 127, 0);
    }

    private static void bars() {
        EveningOrder x = plainPieces(7);
        due(STATE, x, "bars", 3);
        x.must(5, 1, 0);
        x.must(5, 100, 0);
        x.must(5, 100, 0);
        // 0 ahead of 1 and 1 ahead of 0: the first and one of the others
        due(3, x, "bars", 3);
        due(STATE, x, "bars", 1);
        x.must(0, 203, 0);
        x.must(4, 1, 0);
        x.must(4, 100, 0);
        due(3, x, "bars", 3);
        due(STATE, x, "bars", 12);
        x.must(2, 200, 0);
        // broken in every ROW with PIECE 2, alone it bars them
        due(64, x, "bars", 7);
        due(64, x, "bars", 4);
        due(3, x, "bars", 3);
        due(BEYOND, x, "bars", 128);
        due(KIND, x, "bars", 0);
        due(KIND, x, "bars", 127);
        EveningOrder y = three();
        y.rule(3, 9);
        due(0, y, "bars", 1);
        y.must(3, 1, 0);
        due(0, y, "bars", 1);
        y.rule(3, 10);
        due(1, y, "bars", 1);
        y.rule(3, 30);
        // only those in which nobody is TOO TIRED count: PIECES 1 and 2 with THE INTERVAL between them, either first
        y.must(3, 100, 0);
        y.must(6, 100, 0);
        due(STATE, y, "bars", 4);
        due(2 + 4, y, "bars", 6);
        barsOfEveryInterval();
    }

    private static void barsOfEveryInterval() {
        EveningOrder x = plainPieces(2);
        // 0 can't end by minute 0; with THE INTERVAL both others are broken, too, without it neither
        x.must(1, 1, 0);
        x.must(7, 1, 0);
        x.must(7, 100, 0);
        x.must(2, 1, 0);
        due(8, x, "bars", 3);
        EveningOrder y = plainPieces(2);
        y.must(4, 1, 0);
        y.must(3, 1, 0);
        y.must(6, 1, 0);
        y.must(1, 1, 0);
        // 0 last: with THE INTERVAL ahead of it or not; 0 first
        due(3, y, "bars", 3);
    }

    private static void fewest() {
        EveningOrder x = new EveningOrder();
        int[] things = {0, 7, 1, 3, 15, 0, 255, 127, 63, 31, 0, 8};
        for (int t : things) {
            x.piece(1000, 0, t, 0);
        }
        // 0, 2, 3, 1 by one thing each
        due(3, x, "fewest", 15, -1);
        due(0, x, "fewest", 15, 0);
        due(2, x, "fewest", 15, 1);
        due(3, x, "fewest", 15, 2);
        due(1, x, "fewest", 15, 3);
        due(NONE, x, "fewest", 15, 4);
        due(NONE, x, "fewest", 15, MAX);
        due(0, x, "fewest", 1, -1);
        due(0, x, "fewest", 0b100001, -1);
        due(5, x, "fewest", 0b100001, 1);
        // all ten of 0 .. 9: from nothing on the stage to all 8 things
        due(8, x, "fewest", 1023, -1);
        long[] order = {0, 5, 2, 3, 1, 4, 9, 8, 7, 6};
        for (int i = 0; i < 10; i++) {
            due(order[i], x, "fewest", 1023, i);
        }
        due(NONE, x, "fewest", 1023, 10);
        due(BEYOND, x, "fewest", 1 << 12, 0);
        due(BEYOND, x, "fewest", -1, 0);
        due(BEYOND, x, "fewest", 0, -2);
        due(KIND, x, "fewest", 0, 20);
        due(KIND, x, "fewest", 2047, 0);
        fewestAcrossImages();
        fewestOfSeveral();
    }

    private static void fewestOfSeveral() {
        EveningOrder x = new EveningOrder();
        int[] things = {3, 1, 2, 0, 1};
        for (int t : things) {
            x.piece(1000, 0, t, 0);
        }
        // there and back around 3, 1, 0, 2 as THINGS: either way round, and 1 or 4 first, are as good
        due(3, x, "fewest", 31, -1);
        long[] order = {0, 1, 4, 3, 2};
        for (int i = 0; i < 5; i++) {
            due(order[i], x, "fewest", 31, i);
        }
        // 0, 1, 3, 2 and 0, 2, 3, 1 are as good, and so are others
        long[] four = {0, 1, 3, 2};
        for (int i = 0; i < 4; i++) {
            due(four[i], x, "fewest", 15, i);
        }
        EveningOrder y = new EveningOrder();
        y.piece(1000, 0, 1, 0);
        y.piece(1000, 0, 0, 0);
        y.piece(1000, 0, 3, 0);
        // the first PIECE isn't always first
        long[] three = {1, 0, 2};
        due(2, y, "fewest", 7, -1);
        for (int i = 0; i < 3; i++) {
            due(three[i], y, "fewest", 7, i);
        }
    }

    private static void fewestAcrossImages() {
        EveningOrder x = new EveningOrder();
        x.piece(1000, 0, 0, 0);
        x.image();
        x.piece(1000, 0, 1, 0);
        due(1, x, "fewest", 3, -1);
        x.restore();
        x.piece(1000, 0, 3, 0);
        due(2, x, "fewest", 3, -1);
    }

    private static void better() {
        EveningOrder x = plainPieces(4);
        x.liking(3, 1, 1);
        text(x, 0, "p*l");
        row(x, 0, 3, 1, 2, 0);
        due(3, x, "better", 0, 0);
        row(x, 0, 1, 0, 3, 2);
        // both changes are worth 1: the first by i
        due(1, x, "better", 0, 0);
        row(x, 0, 0, 1, 2, 3);
        due(STATE, x, "better", 0, 0);
        row(x, 0, 2);
        due(STATE, x, "better", 0, 0);
        row(x, 0, 3, 1, 2, 0);
        // 3 must not be last: four changes are as good
        x.must(4, 300, 0);
        due(1, x, "better", 0, 0);
        // 3 must not be right behind 1: the first two of these go
        x.must(0, 301, 0);
        due(103, x, "better", 0, 0);
        due(BEYOND, x, "better", 4, 0);
        due(NONE, x, "better", 1, 0);
        due(KIND, x, "better", 0, 4);
        // a ROW that isn't GOOD itself needs a change that is worth more, too
        EveningOrder y = plainPieces(2);
        y.must(3, 1, 0);
        row(y, 0, 0, 1);
        due(0, y, "judge", 0, 0, 4);
        due(STATE, y, "better", 0, 0);
        y.liking(6, 1, 1);
        due(1, y, "better", 0, 0);
        betterWithMusts();
        // THE INTERVAL stays where it stands
        EveningOrder z = plainPieces(3);
        z.liking(3, 1, 1);
        text(z, 0, "i*l*(p=1)");
        row(z, 0, 0, 1, 2);
        due(STATE, z, "better", 0, 0);
        due(102, z, "better", 0, 2);
    }

    private static void betterWithMusts() {
        EveningOrder x = plainPieces(4);
        x.liking(3, 1, 1);
        text(x, 0, "(p=0)*l");
        row(x, 0, 0, 1, 2, 3);
        due(3, x, "better", 0, 0);
        // 3 isn't first, but worth most there: 2 comes next
        x.must(3, 300, 0);
        due(2, x, "better", 0, 0);
        x.must(5, 1, 0);
        x.must(5, 2, 0);
        due(STATE, x, "better", 0, 0);
    }

    private static void slides() {
        EveningOrder x = plainPieces(5);
        x.liking(3, 1, 1);
        text(x, 0, "p*l");
        row(x, 0, 4, 3, 2, 1, 0);
        due(1, x, "slides", 0, 0, 1);
        due(0, x, "get", 0, 0);
        due(4, x, "get", 0, 4);
        due(3, x, "get", 0, 1);
        due(1, x, "slides", 0, 0, 20);
        for (int i = 0; i < 5; i++) {
            due(i, x, "get", 0, i);
        }
        due(0, x, "slides", 0, 0, 20);
        row(x, 0, 0, 1, 2, 4, 3);
        due(1, x, "slides", 0, 0, 20);
        due(3, x, "get", 0, 3);
        due(4, x, "get", 0, 4);
        due(BEYOND, x, "slides", 0, 0, 0);
        due(BEYOND, x, "slides", 0, 0, 21);
        due(BEYOND, x, "slides", 4, 0, 1);
        due(BEYOND, x, "slides", 1, 0, -1);
        due(NONE, x, "slides", 1, 0, 1);
        due(KIND, x, "slides", 0, 5, 1);
    }

    private static void ill() {
        EveningOrder x = plainPieces(9);
        row(x, 0, 3, 1, 0, 2);
        due(0, x, "ill", 0, 0, 1, -1);
        due(0, x, "ill", 0, 0, 1, -2);
        due(3, x, "ill", 0, 0, 1, 0);
        due(0, x, "ill", 0, 0, 1, 1);
        due(2, x, "ill", 0, 0, 1, 2);
        due(NONE, x, "ill", 0, 0, 1, 3);
        // 3 isn't first: one pair moved, whichever next to it
        x.must(3, 300, 0);
        due(1, x, "ill", 0, 0, 1, -1);
        due(0, x, "ill", 0, 0, 1, 0);
        due(3, x, "ill", 0, 0, 1, 1);
        // 3 is ahead of 0 as well: 2 comes ahead of both
        x.must(5, 300, 0);
        due(2, x, "ill", 0, 0, 1, -1);
        due(2, x, "ill", 0, 0, 1, 0);
        due(3, x, "ill", 0, 0, 1, 1);
        // and 2 ahead of nothing: there is no such ROW
        x.must(3, 200, 0);
        due(NONE, x, "ill", 0, 0, 1, -1);
        due(NONE, x, "ill", 0, 0, 1, -2);
        due(NONE, x, "ill", 0, 0, 1, 0);
        due(BEYOND, x, "ill", 0, 0, 4, 0);
        due(BEYOND, x, "ill", 0, 0, -1, 0);
        due(BEYOND, x, "ill", 0, 0, 0, -3);
        due(BEYOND, x, "ill", 4, 0, 0, 0);
        due(NONE, x, "ill", 1, 0, 0, 0);
        due(KIND, x, "ill", 0, 4, 9, 0);
        illOfManyAndFew();
        illWorthMost();
        illFewestPairs();
    }

    private static void illOfManyAndFew() {
        EveningOrder x = plainPieces(9);
        row(x, 0, 5);
        due(KIND, x, "ill", 0, 0, 3, 0);
        row(x, 0, 5, 8);
        due(8, x, "ill", 0, 0, 0, 0);
        due(5, x, "ill", 0, 0, 1, 0);
        due(NONE, x, "ill", 0, 0, 1, 1);
        row(x, 0, 8, 7, 6, 5, 4, 3, 2);
        due(0, x, "ill", 0, 0, 3, -1);
        due(4, x, "ill", 0, 0, 3, 3);
        row(x, 0, 8, 7, 6, 5, 4, 3, 2, 1);
        due(KIND, x, "ill", 0, 0, 3, 0);
    }

    private static void illWorthMost() {
        EveningOrder x = plainPieces(4);
        x.liking(3, 1, 1);
        row(x, 0, 0, 1, 2, 3);
        x.must(0, 100, 0);
        // without 3: 1, 0, 2 and 0, 2, 1 have one pair moved
        due(1, x, "ill", 0, 0, 3, -1);
        due(0, x, "ill", 0, 0, 3, 0);
        text(x, 0, "p*l*l");
        due(1, x, "ill", 0, 0, 3, 0);
        text(x, 0, "(0-p)*l*l");
        due(0, x, "ill", 0, 0, 3, 0);
        text(x, 0, "81-p*l*l");
        due(0, x, "ill", 0, 0, 3, 0);
        x.must(5, 1, 0);
        x.must(0, 201, 0);
        due(0, x, "ill", 0, 0, 3, 0);
        illOfThree();
    }

    private static void illOfThree() {
        EveningOrder x = plainPieces(4);
        x.liking(3, 1, 1);
        row(x, 0, 0, 1, 2, 3);
        x.must(5, 100, 0);
        // without 3: 1, 0, 2 alone has one pair moved; the fewest pairs come ahead of what it is worth
        text(x, 0, "(p=0)*l*9");
        due(1, x, "ill", 0, 0, 3, -1);
        due(1, x, "ill", 0, 0, 3, 0);
        due(0, x, "ill", 0, 0, 3, 1);
    }

    private static void illFewestPairs() {
        EveningOrder x = plainPieces(4);
        x.liking(3, 1, 1);
        row(x, 0, 0, 1, 2, 3);
        x.must(0, 100, 0);
        text(x, 0, "(p=0)*l");
        due(1, x, "ill", 0, 0, 3, 0);
        due(1, x, "ill", 0, 0, 3, -1);
    }

    private static void illAndTheInterval() {
        EveningOrder x = plainPieces(4);
        row(x, 0, 0, 1, 2, 3);
        long[][] stands = {{0, 0, 0, 0}, {0, 1, 1, 1}, {1, 1, 2, 2}, {2, 2, 2, 0}};
        for (int interval = 0; interval < 4; interval++) {
            for (int out = 0; out < 4; out++) {
                due(stands[interval][out], x, "ill", 0, interval, out, -2);
            }
        }
    }

    private static void two() {
        EveningOrder x = new EveningOrder();
        due(0, x, "two", 1);
        x.piece(30005, 0, 0, 0);
        due(NONE, x, "two", 29);
        due(0, x, "two", 30);
        x.piece(20003, 0, 255, 0);
        x.piece(10002, 0, 0, 0);
        // 5 against 3 and 2: the first of the two ways round is 0 alone
        due(1, x, "two", 30);
        due(1, x, "two", 999);
        due(NONE, x, "two", 29);
        x.piece(10009, 0, 0, 0);
        // 3, 2 and 5 against 9 are 60 minutes and 10; 9 and 2 against 5 and 3; 5, 3 against 9, 2 has less bits
        due(3, x, "two", 50);
        due(7, x, "two", 60);
        due(5, x, "two", 40);
        due(BEYOND, x, "two", 0);
        due(BEYOND, x, "two", 1000);
        due(BEYOND, x, "two", -5);
    }

    // ---- promises 25 and 26

    private static void past() {
        EveningOrder x = plainPieces(3);
        row(x, 0, 0, 1);
        row(x, 1, 2, 1, 0);
        due(BEYOND, x, "past", 4, 0, 0);
        due(BEYOND, x, "past", 2, -1, 0);
        due(NONE, x, "past", 0, 2, 9);
        due(NONE, x, "past", 2, 0, 0);
        due(KIND, x, "past", 0, 1, 2);
        due(KIND, x, "past", 1, 0, 2);
        due(KIND, x, "past", 0, 1, -1);
        for (int i = 1; i <= 8; i++) {
            due(i, x, "past", 0, 1, i % 2);
        }
        due(FULL, x, "past", 0, 1, 0);
        due(KIND, x, "past", 0, 1, 2);
        due(8, x, "count", 4);
    }

    private static void plain() {
        EveningOrder x = plainPieces(3);
        due(1, x, "plain", -1);
        due(0, x, "plain", 0);
        x.liking(3, 1, 1);
        x.liking(3, -1, 2);
        x.liking(3, 1, 1);
        due(8, x, "plain", -1);
        due(0, x, "plain", 0);
        text(x, 0, "p*l");
        text(x, 1, "p*l");
        text(x, 2, "(p=0)*(l=1)");
        row(x, 0, 0, 1, 2);
        row(x, 1, 0, 2, 1);
        x.past(0, 1, 0);
        // by 0 the first is worth 1 more, by 1 a half less, by 2 as much
        due(4, x, "plain", -1);
        due(1, x, "plain", 0);
        row(x, 2, 1, 0, 2);
        row(x, 3, 2, 0, 1);
        // 2 has 1 more, 0 has 3 more
        x.past(2, 3, 0);
        due(4, x, "plain", -1);
        due(1, x, "plain", 0);
        x.past(2, 0, 0);
        // 0 has 1 less, 1 a half more, 2 has 1 more: all three, as 0 and 2 make as much alone
        due(1, x, "plain", -1);
        due(7, x, "plain", 0);
        x.turn(0, false);
        x.turn(1, false);
        due(7, x, "plain", 0);
        // what was on the SHEETS stays in the PASTS
        x.sheet(0, 0, 0);
        due(7, x, "plain", 0);
        // its TEXTS are those of now
        text(x, 2, "(p=0)*(l=1)*2");
        due(2, x, "plain", -1);
        due(5, x, "plain", 0);
        plainOfSeveral();
        x.past(2, 2, 0);
        due(NONE, x, "plain", 0);
        due(0, x, "plain", -1);
        due(BEYOND, x, "plain", 1);
        due(BEYOND, x, "plain", -2);
    }

    private static void plainOfSeveral() {
        EveningOrder x = plainPieces(3);
        for (int i = 0; i < 4; i++) {
            x.liking(3, 1, 1);
        }
        text(x, 0, "(p=1)*l*2-(p=0)*l");
        text(x, 1, "(p=2)*l*2-(p=1)*l");
        row(x, 0, 0, 1, 2);
        row(x, 1, 1, 2, 0);
        row(x, 2, 2, 1, 0);
        x.past(0, 1, 0);
        x.past(0, 2, 0);
        // by 0: 2 against 3 and 0; by 1: 3 against -2 and -1; 0 and 1 together hold as well
        due(2, x, "plain", 0);
        x.past(1, 0, 0);
        due(NONE, x, "plain", 0);
        EveningOrder y = plainPieces(2);
        for (int i = 0; i < 3; i++) {
            y.liking(3, 1, 1);
        }
        row(y, 0, 0, 1);
        row(y, 1, 1, 0);
        y.past(0, 1, 1);
        // two are as plain: the least bits; a plainer one later on is told
        text(y, 1, "p*l");
        text(y, 2, "p*l");
        due(2, y, "plain", 0);
        due(6, y, "plain", -1);
        text(y, 0, "0-(p=1)*l");
        text(y, 1, "p*l");
        text(y, 2, "p*l*3");
        due(2, y, "plain", 0);
        // THE INTERVAL belongs to the PAST: j is 1 at place 1 by it alone
        text(y, 1, "p*l*(j=0)");
        text(y, 2, "p*l*j");
        due(4, y, "plain", 0);
        plainestIsLate();
    }

    private static void plainestIsLate() {
        EveningOrder x = plainPieces(3);
        for (int i = 0; i < 3; i++) {
            x.liking(3, 1, 1);
        }
        row(x, 0, 0, 1, 2);
        row(x, 1, 1, 0, 2);
        row(x, 2, 0, 2, 1);
        x.past(0, 1, 0);
        x.past(0, 2, 0);
        text(x, 0, "(p=1)*(l=1)");
        due(1, x, "plain", 0);
        // 0 tells the first PAST alone, 1 the second, 2 both
        text(x, 0, "(p=0)*(l=0)");
        text(x, 1, "(p=2)*(l=2)");
        text(x, 2, "(p=1)*(l=1)");
        due(4, x, "plain", 0);
        text(x, 2, "0");
        due(3, x, "plain", 0);
    }

    // ---- promises 27 to 38

    /** LIKINGS 0 .. 6 of KINDS 0 .. 6, each with up 2 and down 9. */
    private static EveningOrder speaking() {
        EveningOrder x = new EveningOrder();
        for (int kind = 0; kind < 7; kind++) {
            x.liking(kind, 2, 9);
        }
        return x;
    }

    private static void voice() {
        EveningOrder x = speaking();
        // says, hears, asks, parts of 20, by KIND
        long[][] of20 = {
            {22, 44, 44, 20 / 9},
            {22, 53, 52, 20 / 8 + 15 - 1},
            {11, 22, 20, 20 / 7},
            {22, 44, 46 - 3, 20 / 6},
            {-22, -44, -48 ^ 4, 20 / 5},
            {66, 66 * 2 + 9, 66 * 2 + 9 - 5 - 12, 66 * 2 + 9 - (20 / 4 + (18 + 9 - 5 - 12))},
            {22, 42, 42 - 6, 20 / 3},
        };
        for (int kind = 0; kind < 7; kind++) {
            for (int act = 0; act < 4; act++) {
                due(of20[kind][act], x, "voice", kind, act, 20);
            }
        }
        due((MAX + 2) * 2, x, "voice", 0, 1, MAX);
        due((-5) / 2, x, "voice", 2, 0, -7);
        due(BEYOND, x, "voice", 7, 0, 0);
        due(BEYOND, x, "voice", -1, 0, 0);
        due(BEYOND, x, "voice", 0, 4, 0);
        due(BEYOND, x, "voice", 0, -1, 0);
        EveningOrder y = new EveningOrder();
        y.liking(0, 1, 1);
        y.liking(5, 1, 1);
        y.liking(3, 1, 1);
        due(PARTED, y, "voice", 1, 3, 8);
        due(1, y, "told", 6);
        due(MIN, y, "voice", 2, 3, MIN);
        due(-1000006, y, "voice", 0, 0, -1000007);
        due(1, y, "told", 6);
    }

    private static void traced(EveningOrder x, int... bodies) {
        due(bodies.length, x, "count", 7);
        for (int i = 0; i < bodies.length; i++) {
            due(bodies[i], x, "trace", i);
        }
        due(NONE, x, "trace", bodies.length);
    }

    private static void trace() {
        EveningOrder x = speaking();
        due(NONE, x, "trace", 0);
        x.voice(0, 2, 1);
        traced(x, 12, 11, 10);
        x.voice(1, 3, 1);
        traced(x, 21, 13, 12, 20, 11, 10);
        x.voice(2, 1, 1);
        traced(x, 11, 30, 10);
        x.voice(3, 2, 1);
        traced(x, 40, 12, 11, 10);
        x.voice(4, 2, 1);
        traced(x, 51, 12, 11, 50, 10);
        x.voice(6, 2, 1);
        traced(x, 12, 70, 11, 10);
        x.voice(5, 3, 1);
        traced(x, 62, 20, 11, 60, 10, 21, 13, 61, 12, 20, 11, 60, 10, 60, 10);
        // one that isn't asked of a LIKING leaves it
        x.voice(9, 0, 0);
        due(15, x, "count", 7);
        due(NONE, x, "trace", -1);
        due(NONE, x, "trace", MAX);
        EveningOrder y = new EveningOrder();
        y.liking(0, 1, 1);
        y.liking(5, 1, 1);
        y.voice(1, 3, 8);
        traced(y, 62, 20, 11, 60, 10, 21, 13);
    }

    private static void sheet() {
        EveningOrder x = new EveningOrder();
        due(1, x, "sheet", 0, 8, 24);
        due(1, x, "put", 0, 23, 5);
        due(1, x, "sheet", 0, 8, 24);
        due(0, x, "get", 0, 23);
        due(1, x, "sheet", 3, 16, 0);
        due(BEYOND, x, "get", 3, 0);
        due(1, x, "sheet", 3, 32, 1);
        due(0, x, "get", 3, 0);
        due(1, x, "sheet", 3, 0, -7);
        due(NONE, x, "get", 3, 0);
        due(1, x, "sheet", 3, 0, 99);
        due(BEYOND, x, "sheet", 4, 8, 1);
        due(BEYOND, x, "sheet", -1, 8, -1);
        due(BEYOND, x, "sheet", 0, 7, -1);
        due(BEYOND, x, "sheet", 0, -8, 1);
        due(BEYOND, x, "sheet", 0, 64, 1);
        due(STATE, x, "sheet", 0, 8, -1);
        due(STATE, x, "sheet", 0, 8, MIN);
        due(BEYOND, x, "sheet", 0, 8, 25);
        due(BEYOND, x, "sheet", 0, 8, MAX);
        due(0, x, "get", 0, 23);
    }

    private static void put() {
        EveningOrder x = new EveningOrder();
        x.sheet(0, 8, 2);
        x.sheet(1, 16, 2);
        x.sheet(2, 32, 2);
        int[] values = {127, 128, 255, 256, -129, 32768, 65537, MIN, MAX, 0x12345678};
        for (int v : values) {
            due(1, x, "put", 0, 1, v);
            due((byte) v, x, "get", 0, 1);
            due(1, x, "put", 1, 1, v);
            due((short) v, x, "get", 1, 1);
            due(1, x, "put", 2, 1, v);
            due(v, x, "get", 2, 1);
        }
        due(0, x, "get", 0, 0);
        due(BEYOND, x, "put", 4, 0, 1);
        due(BEYOND, x, "put", -1, 0, 1);
        due(NONE, x, "put", 3, 9, 1);
        due(BEYOND, x, "put", 0, 2, 1);
        due(BEYOND, x, "put", 0, -1, 1);
    }

    private static void get() {
        EveningOrder x = new EveningOrder();
        x.sheet(0, 32, 1);
        x.put(0, 0, -1000001);
        due(-1000001, x, "get", 0, 0);
        due(0, x, "told", 1);
        due(BEYOND, x, "get", 4, 0);
        due(BEYOND, x, "get", -1, 0);
        due(NONE, x, "get", 1, -1);
        due(BEYOND, x, "get", 0, 1);
        due(BEYOND, x, "get", 0, -1);
        due(4, x, "told", 1);
    }

    private static void move() {
        EveningOrder x = new EveningOrder();
        row(x, 0, 1, 2, 3, 4, 5);
        row(x, 1, 9, 9, 9);
        due(2, x, "move", 0, 3, 1, 1, 2);
        due(9, x, "get", 1, 0);
        due(4, x, "get", 1, 1);
        due(5, x, "get", 1, 2);
        // within one SHEET as they all were, both ways
        due(4, x, "move", 0, 0, 0, 1, 4);
        long[] up = {1, 1, 2, 3, 4};
        for (int i = 0; i < 5; i++) {
            due(up[i], x, "get", 0, i);
        }
        due(4, x, "move", 0, 1, 0, 0, 4);
        long[] down = {1, 2, 3, 4, 4};
        for (int i = 0; i < 5; i++) {
            due(down[i], x, "get", 0, i);
        }
        due(0, x, "move", 0, 5, 1, 3, 0);
        x.sheet(2, 16, 3);
        due(BEYOND, x, "move", 4, 0, 0, 0, 0);
        due(BEYOND, x, "move", 3, 0, -1, 0, 0);
        due(NONE, x, "move", 0, -1, 3, 0, 1);
        due(NONE, x, "move", 3, 0, 2, 0, 1);
        due(KIND, x, "move", 0, -1, 2, 0, 1);
        due(BEYOND, x, "move", 0, 0, 1, 0, -1);
        due(BEYOND, x, "move", 0, -1, 1, 0, 1);
        due(BEYOND, x, "move", 0, 0, 1, -1, 1);
        due(BEYOND, x, "move", 0, 4, 1, 0, 2);
        due(BEYOND, x, "move", 0, 0, 1, 2, 2);
        due(BEYOND, x, "move", 0, 6, 1, 0, 0);
        due(BEYOND, x, "move", 0, MAX, 1, 0, MAX);
        due(BEYOND, x, "move", 0, 1, 1, 0, MAX);
        due(9, x, "get", 1, 0);
    }

    private static void imageAndRestore() {
        EveningOrder x = three();
        due(NONE, x, "restore");
        x.liking(2, 1, 2);
        text(x, 0, "m*2");
        x.liking(3, 1, 1);
        x.turn(1, false);
        x.must(3, 1, 0);
        x.past(0, 0, 0);
        x.tell(7);
        x.tell(8);
        tape(x, "m+");
        x.rule(0, 3);
        due(1, x, "image");
        x.piece(1000, 0, 0, 0);
        text(x, 0, "1");
        text(x, 0, "m*3");
        x.turn(0, false);
        x.turn(1, true);
        x.liking(4, 1, 1);
        x.must(4, 1, 0);
        x.past(0, 0, 0);
        x.check(0);
        x.rule(0, 5);
        x.rule(3, 1);
        x.put(0, 0, 1);
        x.voice(0, 2, 1);
        int none = x.told(2);
        due(3, x, "restore");
        long[] counts = {3, 2, 1, 1, 1, 2, 2, 4};
        for (int what = 0; what < 8; what++) {
            due(counts[what], x, "count", what);
        }
        due(1, x, "get", 0, 0);
        due(none, x, "told", 2);
        x.put(0, 0, 0);
        // CHANGE 3: the first ends at 10, the last begins at 10 + 3 + 5 + 9
        due(34, x, "worthBy", 0, 0, 0);
        due(17, x, "worth", 0, 0, 0);
        due(3, x, "rule", 0, 4);
        due(999, x, "rule", 3, 999);
        tape(x, "1");
        due(1, x, "text", 0);
        // the IMAGE stays, and counts on
        due(3, x, "restore");
        due(3, x, "rule", 0, 3);
        due(34, x, "worthBy", 0, 0, 0);
        x.piece(1000, 0, 0, 0);
        due(2, x, "image");
        x.piece(1000, 0, 0, 0);
        due(4, x, "restore");
        due(3, x, "image");
        whatIsRestored();
    }

    private static void whatIsRestored() {
        EveningOrder x = plainPieces(2);
        x.liking(3, 1, 1);
        tape(x, "l*5");
        x.tell(0);
        x.tell(1);
        x.image();
        x.liking(3, 1, 1);
        text(x, 1, "+");
        text(x, 1, "7*p");
        tape(x, "ppp");
        x.check(0);
        x.tell(5);
        x.tell(5);
        x.tell(5);
        x.restore();
        // what waits, and THE TAPE, are those of the IMAGE
        due(2, x, "count", 6);
        due(0, x, "check", 3);
        due(1, x, "text", 0);
        row(x, 0, 0, 1);
        due(5, x, "worthBy", 0, 0, 0);
        // a new LIKING where another one was has no TEXT
        due(1, x, "liking", 3, 1, 1);
        due(0, x, "worthBy", 0, 0, 1);
        // and is of its own KIND, PIECES and MUSTS likewise
        x.restore();
        due(1, x, "liking", 4, 3, 2);
        due(302, x, "as", 1, 4);
        x.piece(3000, 1, 0, 9);
        due(3, x, "pieceIs", 2, 0);
        x.must(4, 1, 0);
        x.restore();
        x.piece(4000, 1, 0, 9);
        x.must(3, 1, 0);
        due(4, x, "pieceIs", 2, 0);
        due(1, x, "judge", 0, 0, 3);
    }

    private static void tell() {
        EveningOrder x = new EveningOrder();
        for (int i = 1; i <= 12; i++) {
            due(i, x, "tell", MIN + i);
        }
        due(FULL, x, "tell", 0);
        due(12, x, "count", 6);
    }

    private static void check() {
        EveningOrder x = plainPieces(8);
        x.liking(3, 1, 1);
        text(x, 0, "p*l");
        x.tell(1);
        x.tell(2);
        x.tell(4);
        due(0, x, "check", 0b10110);
        due(0, x, "count", 6);
        due(1, x, "check", 0b10110);
        x.tell(1);
        x.tell(2);
        due(3, x, "check", 0b10110);
        x.tell(1);
        x.tell(4);
        x.tell(2);
        due(2, x, "check", 0b10110);
        x.tell(1);
        x.tell(2);
        x.tell(4);
        x.tell(5);
        due(4, x, "check", 0b10110);
        x.tell(1);
        due(BEYOND, x, "check", 256);
        due(0, x, "count", 6);
        x.tell(1);
        due(KIND, x, "check", 0);
        due(0, x, "count", 6);
        x.tell(1);
        due(KIND, x, "check", 127);
        due(0, x, "count", 6);
        x.must(3, 1, 0);
        x.tell(1);
        due(NONE, x, "check", 1);
        due(0, x, "count", 6);
    }

    private static void count() {
        EveningOrder x = three();
        x.liking(1, 1, 1);
        x.liking(1, 1, 1);
        x.turn(0, false);
        x.must(0, 1, 0);
        x.must(0, 2, 0);
        x.past(0, 0, 0);
        x.feed(0, 5);
        x.tell(3);
        x.voice(1, 1, 1);
        long[] counts = {3, 2, 1, 2, 1, 5, 1, 3};
        for (int what = 0; what < 8; what++) {
            due(counts[what], x, "count", what);
        }
        due(BEYOND, x, "count", 8);
        due(BEYOND, x, "count", -1);
        due(BEYOND, x, "count", MIN);
    }

    private static void told() {
        EveningOrder x = new EveningOrder();
        due(BEYOND, x, "told", 0);
        due(BEYOND, x, "told", 7);
        due(BEYOND, x, "told", MIN);
        due(3, x, "told", 1);
        x.worth(0, 0, 0);
        x.most(0, 0);
        x.restore();
        x.sheet(0, 8, -1);
        due(2, x, "told", 2);
        due(1, x, "told", 3);
        due(0, x, "told", 4);
        due(1, x, "told", 5);
        for (int i = 0; i < 14; i++) {
            x.tell(i);
        }
        due(2, x, "told", 4);
        x.liking(0, 1, 1);
        x.liking(0, 1, 1);
        x.voice(1, 3, 1);
        due(1, x, "told", 6);
        due(3, x, "told", 1);
    }

    private static void errorsChangeNothing() {
        EveningOrder x = three();
        x.liking(2, 1, 1);
        x.feed('m', 1);
        long before = x.worth(0, 0, 0);
        x.piece(0, 0, 0, 0);
        x.rule(0, 10);
        x.rule(3, -1);
        x.liking(9, 1, 1);
        x.turn(5, false);
        x.must(9, 1, 0);
        x.feed(0, 9);
        x.text(7);
        x.slides(0, 3, 1);
        x.slides(0, 0, 21);
        x.past(0, 1, 0);
        x.sheet(0, 8, -1);
        x.sheet(0, 9, 3);
        x.put(0, 3, 1);
        x.move(0, 0, 0, 1, 3);
        due("after errors", x.worth(0, 0, 0), before);
        long[] counts = {3, 1, 1, 0, 0, 1, 0, 0};
        for (int what = 0; what < 8; what++) {
            due(counts[what], x, "count", what);
        }
        for (int i = 0; i < 3; i++) {
            due(i, x, "get", 0, i);
        }
        due(0, x, "text", 0);
    }
}
