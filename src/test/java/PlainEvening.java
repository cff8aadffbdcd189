import java.math.BigInteger;
import java.util.ArrayList;
import java.util.Arrays;
import java.util.HashMap;
import java.util.HashSet;
import java.util.List;
import java.util.Map;
import java.util.Set;
import java.util.TreeSet;

/**
 * The document's words once more, as slowly and plainly as they can be written: every ROW is gone through
 * minute by minute, nothing is kept from one call to the next, errors are exceptions. OracleTest holds
 * EveningOrder against it.
 */
final class PlainEvening {
    static final int LOW = -1000000;

    private static final class Err extends RuntimeException {
        private static final long serialVersionUID = 1L;
        final int k;

        Err(int k) {
            super("error " + k, null, false, false);
            this.k = k;
        }
    }

    private static final Err BEYOND = new Err(1);
    private static final Err NONE = new Err(2);
    private static final Err STATE = new Err(3);
    private static final Err FULL = new Err(4);
    private static final Err KIND = new Err(5);
    private static final Err PARTED = new Err(6);

    record Piece(int minutes, int key, int loud, int players, int things, int effort) { }

    record Liking(int kind, int up, int down, boolean on, String text) { }

    record Must(int sort, int a, int b, int m) { }

    record Row(List<Integer> pieces, int interval) {
        int size() {
            return pieces.size();
        }
    }

    record Past(Row first, Row second) { }

    private static final class State {
        List<Piece> pieces = new ArrayList<>();
        List<Liking> likings = new ArrayList<>();
        List<Must> musts = new ArrayList<>();
        List<Past> pasts = new ArrayList<>();
        List<Integer> waiting = new ArrayList<>();
        int[] rules = {1, 1, 20, 999};
        String tape = "";

        State copy() {
            State c = new State();
            c.pieces = new ArrayList<>(pieces);
            c.likings = new ArrayList<>(likings);
            c.musts = new ArrayList<>(musts);
            c.pasts = new ArrayList<>(pasts);
            c.waiting = new ArrayList<>(waiting);
            c.rules = rules.clone();
            c.tape = tape;
            return c;
        }
    }

    private State s = new State();
    private State image;
    private int images;
    private final Object[] sheets = new Object[4];
    private List<Integer> trace = new ArrayList<>();
    private final int[] errors = new int[7];

    /** Any call by its name; a false or true stands as 0 or 1. */
    long call(String name, long... a) {
        try {
            return answer(name, a);
        } catch (Err e) {
            errors[e.k]++;
            return LOW - e.k;
        }
    }

    /** The same for a call that changes nothing, with its ERROR not counted: to choose other calls by it. */
    long peek(String name, long... a) {
        try {
            return answer(name, a);
        } catch (Err e) {
            return LOW - e.k;
        }
    }

    private long answer(String name, long[] l) {
        int[] a = new int[l.length];
        for (int i = 0; i < a.length; i++) {
            a[i] = (int) l[i];
        }
        switch (name) {
            case "piece": return piece(a[0], a[1], a[2], a[3]);
            case "pieceIs": return pieceIs(a[0], a[1]);
            case "rule": return rule(a[0], a[1]);
            case "liking": return liking(a[0], a[1], a[2]);
            case "turn": return turn(a[0], a[1] != 0);
            case "as": return as(a[0], a[1]);
            case "must": return must(a[0], a[1], a[2]);
            case "feed": return feed(l[0], a[1]);
            case "text": return text(a[0]);
            case "worth": return worth(a[0], a[1], a[2]);
            case "worthBy": return worthBy(a[0], a[1], a[2]);
            case "tired": return tired(a[0], a[1], a[2], a[3]);
            case "judge": return judge(a[0], a[1], a[2]);
            case "begins": return begins(a[0], a[1], a[2]);
            case "best": return best(a[0], a[1]);
            case "most": return most(a[0], a[1]);
            case "equals": return equals(a[0], a[1]);
            case "bars": return bars(a[0]);
            case "fewest": return fewest(a[0], a[1]);
            case "better": return better(a[0], a[1]);
            case "slides": return slides(a[0], a[1], a[2]);
            case "ill": return ill(a[0], a[1], a[2], a[3]);
            case "two": return two(a[0]);
            case "past": return past(a[0], a[1], a[2]);
            case "plain": return plain(a[0]);
            case "voice": return voice(a[0], a[1], a[2]);
            case "trace": return trace(a[0]);
            case "sheet": return sheet(a[0], a[1], a[2]);
            case "put": return put(a[0], a[1], a[2]);
            case "get": return get(a[0], a[1]);
            case "move": return move(a[0], a[1], a[2], a[3], a[4]);
            case "image": image = s.copy(); return ++images;
            case "restore": return restore();
            case "tell": return tell(a[0]);
            case "check": return check(a[0]);
            case "count": return count(a[0]);
            case "told": need(a[0] >= 1 && a[0] <= 6, BEYOND); return errors[a[0]];
            default: throw new IllegalStateException(name);
        }
    }

    private static void need(boolean holds, Err otherwise) {
        if (!holds) {
            throw otherwise;
        }
    }

    private static boolean in(int v, int lo, int hi) {
        return lo <= v && v <= hi;
    }

    // ---- pieces, likings, musts

    private int piece(int sound, int players, int things, int effort) {
        for (int minutes = 1; minutes <= 60; minutes++) {
            for (int key = 0; key <= 11; key++) {
                for (int loud = 0; loud <= 9; loud++) {
                    if (sound == 1000 * minutes + 10 * key + loud) {
                        need(in(players, 0, 255) && in(things, 0, 255) && in(effort, 0, 99), BEYOND);
                        need(s.pieces.size() < 12, FULL);
                        s.pieces.add(new Piece(minutes, key, loud, players, things, effort));
                        return s.pieces.size() - 1;
                    }
                }
            }
        }
        throw BEYOND;
    }

    private int pieceIs(int piece, int what) {
        need(in(piece, 0, s.pieces.size() - 1) && in(what, 0, 5), BEYOND);
        Piece p = s.pieces.get(piece);
        return List.of(p.minutes, p.key, p.loud, p.players, p.things, p.effort).get(what);
    }

    private int rule(int what, int v) {
        int[] greatest = {9, 9, 60, 999};
        need(in(what, 0, 3), BEYOND);
        need(in(v, 0, greatest[what]), BEYOND);
        int was = s.rules[what];
        s.rules[what] = v;
        return was;
    }

    private int liking(int kind, int up, int down) {
        need(in(kind, 0, 6) && in(up, -9, 9) && in(down, 1, 9), BEYOND);
        need(s.likings.size() < 10, FULL);
        s.likings.add(new Liking(kind, up, down, true, null));
        return s.likings.size() - 1;
    }

    private Liking likingOf(int liking) {
        need(in(liking, 0, s.likings.size() - 1), BEYOND);
        return s.likings.get(liking);
    }

    private int turn(int liking, boolean on) {
        Liking l = likingOf(liking);
        s.likings.set(liking, new Liking(l.kind, l.up, l.down, on, l.text));
        return l.on == on ? 0 : 1;
    }

    private int as(int liking, int kind) {
        Liking l = likingOf(liking);
        need(in(kind, 0, 6), BEYOND);
        boolean is = kind == l.kind || kind == 0 || kind == 1 && l.kind == 5;
        need(is, KIND);
        return 100 * l.up + l.down;
    }

    private int must(int sort, int pair, int m) {
        need(in(sort, 0, 7) && in(m, 0, 999) && pair >= 0, BEYOND);
        int a = pair / 100;
        int b = pair - 100 * a;
        need(a < s.pieces.size() && b < s.pieces.size() && a != b, BEYOND);
        need(s.musts.size() < 10, FULL);
        s.musts.add(new Must(sort, a, b, m));
        return s.musts.size() - 1;
    }

    private int feed(long word, int n) {
        need(in(n, 1, 8), BEYOND);
        need(s.tape.length() + n <= 50, FULL);
        long w = word;
        for (int i = 0; i < n; i++) {
            s.tape += (char) (w & 255);
            w >>>= 8;
        }
        return s.tape.length();
    }

    private int text(int liking) {
        Liking l = likingOf(liking);
        String names = namesOf(l.kind);
        need(names != null, KIND);
        String t = s.tape;
        s.tape = "";
        if (!isText(t, names)) {
            // what goes on to a TEXT has only beginnings that do, too
            int goes = 0;
            int stops = t.length() + 1;
            while (stops - goes > 1) {
                int middle = (goes + stops) / 2;
                if (goesOn(t.substring(0, middle), names)) {
                    goes = middle;
                } else {
                    stops = middle;
                }
            }
            return -10 - goes;
        }
        s.likings.set(liking, new Liking(l.kind, l.up, l.down, l.on, t));
        return (int) t.chars().filter(c -> "+-*/<=?".indexOf(c) >= 0).count();
    }

    private static String namesOf(int kind) {
        return new String[] {null, "abks", "m", "pnlij", "t", "abks", null}[kind];
    }

    /** Whether some TEXT begins so: all ways are tried to go on to one. */
    private static boolean goesOn(String begun, String names) {
        for (String operand : new String[] {"", "0"}) {
            List<String> ends = new ArrayList<>(List.of(""));
            for (int depth = 0; depth <= 5; depth++) {
                List<String> longer = new ArrayList<>();
                for (String end : ends) {
                    if (isText(begun + operand + end, names)) {
                        return true;
                    }
                    longer.add(end + ")");
                    longer.add(end + ":0");
                }
                ends = longer;
            }
        }
        return false;
    }

    private static boolean isText(String t, String names) {
        return new Grammar(t, names).ends('T', 0, 0).contains(t.length());
    }

    /** From a place, with so many open, where a part of the grammar may end: all ways at once. */
    private static final class Grammar {
        final String t;
        final String names;
        final Map<String, Set<Integer>> known = new HashMap<>();

        Grammar(String t, String names) {
            this.t = t;
            this.names = names;
        }

        Set<Integer> ends(char part, int from, int open) {
            if (open > 5) {
                return Set.of();
            }
            String key = part + " " + from + " " + open;
            Set<Integer> ends = known.get(key);
            if (ends == null) {
                ends = switch (part) {
                    case 'T' -> choice(from, open);
                    case 'S' -> list('P', "+-", from, open);
                    case 'P' -> list('O', "*/<=", from, open);
                    default -> one(from, open);
                };
                known.put(key, ends);
            }
            return ends;
        }

        boolean at(int place, char c) {
            return place < t.length() && t.charAt(place) == c;
        }

        Set<Integer> choice(int from, int open) {
            Set<Integer> ends = new TreeSet<>(ends('S', from, open));
            for (int q : ends('S', from, open)) {
                if (at(q, '?')) {
                    for (int c : ends('T', q + 1, open + 1)) {
                        if (at(c, ':')) {
                            ends.addAll(ends('T', c + 1, open + 1));
                        }
                    }
                }
            }
            return ends;
        }

        Set<Integer> list(char part, String signs, int from, int open) {
            Set<Integer> ends = new TreeSet<>();
            TreeSet<Integer> waiting = new TreeSet<>(ends(part, from, open));
            while (!waiting.isEmpty()) {
                int e = waiting.pollFirst();
                if (ends.add(e) && e < t.length() && signs.indexOf(t.charAt(e)) >= 0) {
                    waiting.addAll(ends(part, e + 1, open));
                }
            }
            return ends;
        }

        Set<Integer> one(int from, int open) {
            Set<Integer> ends = new TreeSet<>();
            if (from >= t.length()) {
                return ends;
            }
            char c = t.charAt(from);
            if (c >= '0' && c <= '9') {
                ends.add(from + 1);
                if (from + 1 < t.length() && t.charAt(from + 1) >= '0' && t.charAt(from + 1) <= '9') {
                    ends.add(from + 2);
                }
            }
            if (names.indexOf(c) >= 0) {
                ends.add(from + 1);
            }
            if (c == '-') {
                ends.addAll(ends('O', from + 1, open + 1));
            }
            if (c == '(') {
                for (int e : ends('T', from + 1, open + 1)) {
                    if (at(e, ')')) {
                        ends.add(e + 1);
                    }
                }
            }
            return ends;
        }
    }

    /** What a right TEXT comes to, worked out while it is read. */
    private static final class Worker {
        final String t;
        final Map<Character, Integer> named;
        int at = 0;

        Worker(String t, Map<Character, Integer> named) {
            this.t = t;
            this.named = named;
        }

        char next() {
            return at < t.length() ? t.charAt(at) : '$';
        }

        int choice() {
            int v = sum();
            if (next() != '?') {
                return v;
            }
            at++;
            int yes = choice();
            at++;
            int no = choice();
            return v != 0 ? yes : no;
        }

        int sum() {
            int v = product();
            while (next() == '+' || next() == '-') {
                char c = next();
                at++;
                int w = product();
                v = c == '+' ? v + w : v - w;
            }
            return v;
        }

        int product() {
            int v = one();
            while ("*/<=".indexOf(next()) >= 0) {
                char c = next();
                at++;
                int w = one();
                if (c == '*') {
                    v = v * w;
                } else if (c == '/') {
                    v = w == 0 ? 0 : (int) ((long) v / (long) w);
                } else if (c == '<') {
                    v = v < w ? 1 : 0;
                } else {
                    v = v == w ? 1 : 0;
                }
            }
            return v;
        }

        int one() {
            char c = next();
            at++;
            if (c == '-') {
                return 0 - one();
            }
            if (c == '(') {
                int v = choice();
                at++;
                return v;
            }
            if (Character.isDigit(c)) {
                int v = c - '0';
                if (Character.isDigit(next())) {
                    v = 10 * v + (next() - '0');
                    at++;
                }
                return v;
            }
            return named.get(c);
        }
    }

    private static int work(String text, Object... names) {
        Map<Character, Integer> named = new HashMap<>();
        for (int i = 0; i < names.length; i += 2) {
            named.put((Character) names[i], (Integer) names[i + 1]);
        }
        return new Worker(text, named).choice();
    }

    // ---- a row

    private int length(int sheet) {
        Object o = sheets[sheet];
        return o instanceof byte[] b ? b.length : o instanceof short[] h ? h.length : ((int[]) o).length;
    }

    private int number(int sheet, int i) {
        Object o = sheets[sheet];
        return o instanceof byte[] b ? b[i] : o instanceof short[] h ? h[i] : ((int[]) o)[i];
    }

    private Row rowOf(int sheet, int interval) {
        need(sheets[sheet] != null, NONE);
        int n = length(sheet);
        need(in(n, 1, 12), KIND);
        List<Integer> pieces = new ArrayList<>();
        for (int i = 0; i < n; i++) {
            int v = number(sheet, i);
            need(in(v, 0, s.pieces.size() - 1) && !pieces.contains(v), KIND);
            pieces.add(v);
        }
        need(interval == 0 || interval >= 1 && interval < n, KIND);
        return new Row(pieces, interval);
    }

    private Piece at(Row r, int i) {
        return s.pieces.get(r.pieces.get(i));
    }

    private int carried(Row r, int i) {
        int together = 0;
        for (int thing = 0; thing < 8; thing++) {
            boolean has = (at(r, i).things & 1 << thing) != 0;
            boolean had = (at(r, i - 1).things & 1 << thing) != 0;
            together += has != had ? 1 : 0;
        }
        return together;
    }

    private int beginsAt(Row r, int i) {
        if (i == 0) {
            return 0;
        }
        int gap = r.interval == i ? s.rules[2] : carried(r, i) * s.rules[0];
        return endsAt(r, i - 1) + gap;
    }

    private int endsAt(Row r, int i) {
        return beginsAt(r, i) + at(r, i).minutes;
    }

    private int[] begins(Row r) {
        int[] b = new int[r.size()];
        for (int i = 0; i < b.length; i++) {
            b[i] = beginsAt(r, i);
        }
        return b;
    }

    /** By place, then player. */
    private int[][] tiredness(Row r) {
        int n = r.size();
        int[] begin = begins(r);
        int[][] out = new int[n][8];
        for (int player = 0; player < 8; player++) {
            int tired = 0;
            int place = 0;
            int end = begin[n - 1] + at(r, n - 1).minutes;
            for (int minute = 0; minute < end; minute++) {
                boolean on = minute >= begin[place] && (at(r, place).players >> player & 1) == 1;
                if (!on) {
                    tired = Math.max(0, tired - s.rules[1]);
                }
                if (minute + 1 == begin[place] + at(r, place).minutes) {
                    if ((at(r, place).players >> player & 1) == 1) {
                        tired += at(r, place).effort;
                    }
                    out[place][player] = tired;
                    place++;
                }
            }
        }
        return out;
    }

    private int mostTired(Row r) {
        int most = 0;
        for (int[] behind : tiredness(r)) {
            for (int t : behind) {
                most = Math.max(most, t);
            }
        }
        return most;
    }

    private boolean kept(Must m, Row r) {
        int a = r.pieces.indexOf(m.a);
        int b = r.pieces.indexOf(m.b);
        boolean pair = m.sort == 0 || m.sort == 1 || m.sort == 5;
        if (a < 0 || pair && b < 0) {
            return true;
        }
        int first = Math.min(a, b);
        switch (m.sort) {
            case 0: return a != b + 1;
            case 1: return Math.abs(a - b) == 1 && r.interval != first + 1;
            case 2: return endsAt(r, a) <= m.m;
            case 3: return a > 0;
            case 4: return a < r.size() - 1;
            case 5: return a < b;
            case 6: return r.interval == 0 || a != r.interval;
            default: return r.interval == 0 || a < r.interval;
        }
    }

    private int broken(Row r) {
        int bits = 0;
        for (int i = 0; i < s.musts.size(); i++) {
            bits += kept(s.musts.get(i), r) ? 0 : 1 << i;
        }
        return bits;
    }

    private boolean good(Row r) {
        return broken(r) == 0 && mostTired(r) <= s.rules[3];
    }

    private int by(Liking l, Row r) {
        int sum = 0;
        int n = r.size();
        int[] begin = begins(r);
        int[][] tiredness = l.kind == 4 ? tiredness(r) : null;
        for (int i = 0; i < n; i++) {
            Piece p = at(r, i);
            if ((l.kind == 1 || l.kind == 5) && i > 0 && r.interval != i) {
                Piece q = at(r, i - 1);
                int up = Math.floorMod(p.key - q.key, 12);
                int way = Math.min(up, 12 - up);
                sum += l.text == null ? 0 : work(l.text, 'a', q.loud, 'b', p.loud, 'k', way, 's', carried(r, i));
                sum -= l.kind == 5 ? carried(r, i) : 0;
            }
            if (l.kind == 2) {
                int latest = -1;
                for (int j = 0; j < i; j++) {
                    latest = at(r, j).key == p.key ? j : latest;
                }
                if (latest >= 0) {
                    int m = begin[i] - begin[latest] - at(r, latest).minutes;
                    sum += l.text == null ? m : work(l.text, 'm', m);
                }
            }
            if (l.kind == 3 && l.text != null) {
                int closing = i == n - 1 || r.interval != 0 && i + 1 == r.interval ? 1 : 0;
                int opening = i == 0 || r.interval != 0 && i == r.interval ? 1 : 0;
                sum += work(l.text, 'p', i, 'n', n, 'l', p.loud, 'i', closing, 'j', opening);
            }
            if (l.kind == 4) {
                int t = 0;
                for (int player = 0; player < 8; player++) {
                    t = (p.players >> player & 1) == 1 ? Math.max(t, tiredness[i][player]) : t;
                }
                sum += l.text == null ? t : work(l.text, 't', t);
            }
        }
        return l.kind == 6 ? -Integer.bitCount(broken(r)) : sum;
    }

    /** {above, below} the line, in least terms. */
    private BigInteger[] worthOf(Row r, Set<Integer> likings) {
        BigInteger above = BigInteger.ZERO;
        BigInteger below = BigInteger.ONE;
        for (int i : likings) {
            Liking l = s.likings.get(i);
            BigInteger d = BigInteger.valueOf(l.down);
            BigInteger v = BigInteger.valueOf((long) by(l, r) * l.up);
            above = above.multiply(d).add(v.multiply(below));
            below = below.multiply(d);
            BigInteger g = above.gcd(below);
            above = above.divide(g);
            below = below.divide(g);
        }
        return new BigInteger[] {above, below};
    }

    private Set<Integer> on() {
        Set<Integer> on = new TreeSet<>();
        for (int i = 0; i < s.likings.size(); i++) {
            if (s.likings.get(i).on) {
                on.add(i);
            }
        }
        return on;
    }

    private static int compare(BigInteger[] a, BigInteger[] b) {
        return a[0].multiply(b[1]).compareTo(b[0].multiply(a[1]));
    }

    private static boolean isSheet(int sheet) {
        return in(sheet, 0, 3);
    }

    private long worth(int sheet, int interval, int part) {
        need(isSheet(sheet) && in(part, 0, 1), BEYOND);
        return worthOf(rowOf(sheet, interval), on())[part].longValueExact();
    }

    private int worthBy(int sheet, int interval, int liking) {
        need(isSheet(sheet), BEYOND);
        Liking l = likingOf(liking);
        return by(l, rowOf(sheet, interval));
    }

    private int tired(int sheet, int interval, int player, int i) {
        need(isSheet(sheet) && in(player, 0, 7), BEYOND);
        Row r = rowOf(sheet, interval);
        need(in(i, 0, r.size() - 1), BEYOND);
        return tiredness(r)[i][player];
    }

    private int judge(int sheet, int interval, int what) {
        need(isSheet(sheet) && in(what, 0, 4), BEYOND);
        Row r = rowOf(sheet, interval);
        switch (what) {
            case 0: return endsAt(r, r.size() - 1);
            case 1: return allCarried(r);
            case 2: return mostTired(r);
            case 3: return broken(r);
            default: return good(r) ? 1 : 0;
        }
    }

    private int allCarried(Row r) {
        int all = 0;
        for (int i = 1; i < r.size(); i++) {
            all += carried(r, i);
        }
        return all;
    }

    private int begins(int sheet, int interval, int i) {
        need(isSheet(sheet), BEYOND);
        Row r = rowOf(sheet, interval);
        need(in(i, 0, r.size() - 1), BEYOND);
        return beginsAt(r, i);
    }

    // ---- all rows

    private List<Integer> members(int set, boolean others, int most) {
        List<Integer> members = new ArrayList<>();
        for (int i = 0; i < 32; i++) {
            if ((set >>> i & 1) == 1) {
                need(i < s.pieces.size(), BEYOND);
                members.add(i);
            }
        }
        need(others, BEYOND);
        need(in(members.size(), 1, most), KIND);
        return members;
    }

    private static List<List<Integer>> orders(List<Integer> members) {
        if (members.isEmpty()) {
            return List.of(List.of());
        }
        List<List<Integer>> orders = new ArrayList<>();
        for (int first : members) {
            List<Integer> rest = new ArrayList<>(members);
            rest.remove((Integer) first);
            for (List<Integer> order : orders(rest)) {
                List<Integer> whole = new ArrayList<>(List.of(first));
                whole.addAll(order);
                orders.add(whole);
            }
        }
        return orders;
    }

    private static List<Row> rows(List<Integer> members) {
        List<Row> rows = new ArrayList<>();
        for (List<Integer> order : orders(members)) {
            for (int interval = 0; interval < order.size(); interval++) {
                rows.add(new Row(order, interval));
            }
        }
        return rows;
    }

    /** All GOOD ROWS of those that are worth most, in their order. */
    private List<Row> bestRows(List<Integer> members) {
        List<Row> best = new ArrayList<>();
        BigInteger[] most = null;
        for (Row r : rows(members)) {
            if (!good(r)) {
                continue;
            }
            BigInteger[] worth = worthOf(r, on());
            if (most == null || compare(worth, most) > 0) {
                most = worth;
                best.clear();
            }
            if (compare(worth, most) == 0) {
                best.add(r);
            }
        }
        return best;
    }

    private int best(int set, int what) {
        List<Row> best = bestRows(members(set, what >= -1, 6));
        need(!best.isEmpty(), NONE);
        Row r = best.get(0);
        need(what < r.size(), NONE);
        return what < 0 ? r.interval : r.pieces.get(what);
    }

    private long most(int set, int part) {
        List<Row> best = bestRows(members(set, in(part, 0, 1), 6));
        need(!best.isEmpty(), NONE);
        return worthOf(best.get(0), on())[part].longValueExact();
    }

    private int equals(int set, int what) {
        List<Integer> members = members(set, in(what, 0, 2), 6);
        if (what == 0) {
            return (int) rows(members).stream().filter(this::good).count();
        }
        List<Row> best = bestRows(members);
        if (what == 1 || best.isEmpty()) {
            return best.size();
        }
        int bits = 0;
        for (int piece : members) {
            Set<Integer> places = new HashSet<>();
            for (Row r : best) {
                places.add(r.pieces.indexOf(piece));
            }
            bits += places.size() == 1 ? 1 << piece : 0;
        }
        return bits;
    }

    private int bars(int set) {
        List<Integer> members = members(set, true, 6);
        List<Integer> breaks = new ArrayList<>();
        for (Row r : rows(members)) {
            need(!good(r), STATE);
            if (mostTired(r) <= s.rules[3] && !breaks.contains(broken(r))) {
                breaks.add(broken(r));
            }
        }
        int best = -1;
        for (int musts = 0; musts < 1 << s.musts.size(); musts++) {
            boolean bars = true;
            for (int b : breaks) {
                bars &= (b & musts) != 0;
            }
            if (bars && (best < 0 || Integer.bitCount(musts) < Integer.bitCount(best))) {
                best = musts;
            }
        }
        return best;
    }

    private List<Integer> leastCarried;
    private int least;

    private int fewest(int set, int what) {
        List<Integer> members = members(set, what >= -1, 10);
        need(what < members.size(), NONE);
        least = Integer.MAX_VALUE;
        carryOn(new ArrayList<>(), members, 0);
        return what < 0 ? least : leastCarried.get(what);
    }

    private void carryOn(List<Integer> order, List<Integer> members, int carried) {
        if (carried >= least) {
            return;
        }
        if (order.size() == members.size()) {
            least = carried;
            leastCarried = List.copyOf(order);
            return;
        }
        for (int next : members) {
            if (!order.contains(next)) {
                order.add(next);
                Row r = new Row(order, 0);
                carryOn(order, members, carried + (order.size() > 1 ? carried(r, order.size() - 1) : 0));
                order.remove(order.size() - 1);
            }
        }
    }

    private static Row changed(Row r, int i, int j) {
        List<Integer> pieces = new ArrayList<>(r.pieces);
        pieces.set(i, r.pieces.get(j));
        pieces.set(j, r.pieces.get(i));
        return new Row(pieces, r.interval);
    }

    private int[] betterOf(Row r) {
        int[] best = null;
        BigInteger[] most = worthOf(r, on());
        for (int i = 0; i < r.size(); i++) {
            for (int j = i + 1; j < r.size(); j++) {
                Row c = changed(r, i, j);
                if (good(c) && compare(worthOf(c, on()), most) > 0) {
                    most = worthOf(c, on());
                    best = new int[] {i, j};
                }
            }
        }
        return best;
    }

    private int better(int sheet, int interval) {
        need(isSheet(sheet), BEYOND);
        int[] ij = betterOf(rowOf(sheet, interval));
        need(ij != null, STATE);
        return 100 * ij[0] + ij[1];
    }

    private int slides(int sheet, int interval, int n) {
        need(isSheet(sheet) && in(n, 1, 20), BEYOND);
        Row r = rowOf(sheet, interval);
        int done = 0;
        while (done < n && betterOf(r) != null) {
            int[] ij = betterOf(r);
            r = changed(r, ij[0], ij[1]);
            done++;
        }
        for (int i = 0; i < r.size(); i++) {
            put(sheet, i, r.pieces.get(i));
        }
        return done;
    }

    private int ill(int sheet, int interval, int out, int what) {
        need(isSheet(sheet) && what >= -2, BEYOND);
        Row r = rowOf(sheet, interval);
        need(in(r.size(), 2, 7), KIND);
        need(in(out, 0, r.size() - 1), BEYOND);
        List<Integer> others = new ArrayList<>();
        int ahead = 0;
        for (int i = 0; i < r.size(); i++) {
            if (i != out) {
                others.add(r.pieces.get(i));
                ahead += i < r.interval ? 1 : 0;
            }
        }
        int stands = ahead == others.size() ? 0 : ahead;
        List<Integer> sorted = new ArrayList<>(others);
        sorted.sort(null);
        Row best = null;
        int fewest = 0;
        BigInteger[] most = null;
        for (List<Integer> order : orders(sorted)) {
            Row c = new Row(order, stands);
            if (!good(c)) {
                continue;
            }
            int pairs = 0;
            for (int i = 0; i < others.size(); i++) {
                for (int j = i + 1; j < others.size(); j++) {
                    pairs += order.indexOf(others.get(i)) > order.indexOf(others.get(j)) ? 1 : 0;
                }
            }
            BigInteger[] worth = worthOf(c, on());
            if (best == null || pairs < fewest || pairs == fewest && compare(worth, most) > 0) {
                best = c;
                fewest = pairs;
                most = worth;
            }
        }
        need(best != null && what < best.size(), NONE);
        return what == -1 ? fewest : what == -2 ? best.interval : best.pieces.get(what);
    }

    private int two(int minutes) {
        need(in(minutes, 1, 999), BEYOND);
        int best = -1;
        int least = 0;
        for (int set = 0; set < 1 << s.pieces.size(); set++) {
            int[] time = new int[2];
            int[] loud = new int[2];
            for (int i = 0; i < s.pieces.size(); i++) {
                time[set >> i & 1] += s.pieces.get(i).minutes;
                loud[set >> i & 1] += s.pieces.get(i).loud;
            }
            int apart = Math.abs(loud[0] - loud[1]);
            if (time[0] <= minutes && time[1] <= minutes && (best < 0 || apart < least)) {
                best = set;
                least = apart;
            }
        }
        need(best >= 0, NONE);
        return best;
    }

    // ---- pasts

    private int past(int sheet, int other, int interval) {
        need(isSheet(sheet) && isSheet(other), BEYOND);
        need(sheets[sheet] != null && sheets[other] != null, NONE);
        Past p = new Past(rowOf(sheet, interval), rowOf(other, interval));
        need(s.pasts.size() < 8, FULL);
        s.pasts.add(p);
        return s.pasts.size();
    }

    private int plain(int what) {
        need(in(what, -1, 0), BEYOND);
        int many = 0;
        int best = -1;
        for (int set = 0; set < 1 << s.likings.size(); set++) {
            Set<Integer> likings = new TreeSet<>();
            for (int i = 0; i < s.likings.size(); i++) {
                if ((set >> i & 1) == 1) {
                    likings.add(i);
                }
            }
            boolean tells = true;
            for (Past p : s.pasts) {
                tells = tells && compare(worthOf(p.first, likings), worthOf(p.second, likings)) > 0;
            }
            if (tells) {
                many++;
                best = best < 0 || likings.size() < Integer.bitCount(best) ? set : best;
            }
        }
        if (what == -1) {
            return many;
        }
        need(best >= 0, NONE);
        return best;
    }

    // ---- voices, sheets, images, what is told

    /** KINDS as Java's own classes, which find BODIES by themselves. */
    private static class Voice0 {
        int n;
        int u;
        int d;
        List<Integer> t;

        int says(int x) {
            t.add(10);
            return x + u;
        }

        int hears(int x) {
            t.add(11);
            return says(x) * 2;
        }

        int asks(int x) {
            t.add(12);
            return hears(x) - n;
        }

        int parts(int x) {
            t.add(13);
            need(d - n != 0, PARTED);
            return x / (d - n);
        }
    }

    private static class Voice1 extends Voice0 {
        @Override int hears(int x) {
            t.add(20);
            return super.hears(x) + d;
        }

        @Override int parts(int x) {
            t.add(21);
            return super.parts(x) + asks(1);
        }
    }

    private static class Voice2 extends Voice0 {
        @Override int says(int x) {
            t.add(30);
            return super.says(x) / 2;
        }
    }

    private static class Voice3 extends Voice0 {
        @Override int asks(int x) {
            t.add(40);
            return super.asks(x + 1);
        }
    }

    private static class Voice4 extends Voice0 {
        @Override int says(int x) {
            t.add(50);
            return 0 - super.says(x);
        }

        @Override int asks(int x) {
            t.add(51);
            return super.asks(x) ^ n;
        }
    }

    private static class Voice5 extends Voice1 {
        @Override int says(int x) {
            t.add(60);
            return super.says(x) * 3;
        }

        @Override int asks(int x) {
            t.add(61);
            return super.asks(x) - says(2);
        }

        @Override int parts(int x) {
            t.add(62);
            return hears(x) - super.parts(x);
        }
    }

    private static class Voice6 extends Voice0 {
        @Override int hears(int x) {
            t.add(70);
            return super.hears(x - 1);
        }
    }

    private int voice(int liking, int act, int x) {
        Liking l = likingOf(liking);
        need(in(act, 0, 3), BEYOND);
        Voice0 v = switch (l.kind) {
            case 0 -> new Voice0();
            case 1 -> new Voice1();
            case 2 -> new Voice2();
            case 3 -> new Voice3();
            case 4 -> new Voice4();
            case 5 -> new Voice5();
            default -> new Voice6();
        };
        v.n = liking;
        v.u = l.up;
        v.d = l.down;
        v.t = new ArrayList<>();
        trace = v.t;
        switch (act) {
            case 0: return v.says(x);
            case 1: return v.hears(x);
            case 2: return v.asks(x);
            default: return v.parts(x);
        }
    }

    private int trace(int i) {
        need(in(i, 0, Math.min(30, trace.size()) - 1), NONE);
        return trace.get(i);
    }

    private int sheet(int sheet, int bits, int n) {
        need(isSheet(sheet) && (bits == 0 || bits == 8 || bits == 16 || bits == 32), BEYOND);
        if (bits == 0) {
            sheets[sheet] = null;
            return 1;
        }
        need(n >= 0, STATE);
        need(n <= 24, BEYOND);
        sheets[sheet] = bits == 8 ? new byte[n] : bits == 16 ? new short[n] : new int[n];
        return 1;
    }

    private void needNumber(int sheet, int i) {
        need(isSheet(sheet), BEYOND);
        need(sheets[sheet] != null, NONE);
        need(in(i, 0, length(sheet) - 1), BEYOND);
    }

    private int put(int sheet, int i, int v) {
        needNumber(sheet, i);
        Object o = sheets[sheet];
        if (o instanceof byte[] b) {
            b[i] = (byte) v;
        } else if (o instanceof short[] h) {
            h[i] = (short) v;
        } else {
            ((int[]) o)[i] = v;
        }
        return 1;
    }

    private int get(int sheet, int i) {
        needNumber(sheet, i);
        return number(sheet, i);
    }

    private int move(int sheet, int i, int other, int j, int n) {
        need(isSheet(sheet) && isSheet(other), BEYOND);
        need(sheets[sheet] != null && sheets[other] != null, NONE);
        need(sheets[sheet].getClass() == sheets[other].getClass(), KIND);
        need(n >= 0 && i >= 0 && j >= 0, BEYOND);
        need((long) i + n <= length(sheet) && (long) j + n <= length(other), BEYOND);
        int[] were = new int[n];
        for (int k = 0; k < n; k++) {
            were[k] = number(sheet, i + k);
        }
        for (int k = 0; k < n; k++) {
            put(other, j + k, were[k]);
        }
        return n;
    }

    private int restore() {
        need(image != null, NONE);
        s = image.copy();
        return s.pieces.size();
    }

    private int tell(int v) {
        need(s.waiting.size() < 12, FULL);
        s.waiting.add(v);
        return s.waiting.size();
    }

    private int check(int set) {
        List<Integer> told = s.waiting;
        s.waiting = new ArrayList<>();
        List<Row> best = bestRows(members(set, true, 6));
        need(!best.isEmpty(), NONE);
        Integer[] due = best.get(0).pieces.toArray(new Integer[0]);
        int unlike = Arrays.mismatch(told.toArray(new Integer[0]), due);
        return unlike < 0 ? 0 : 1 + unlike;
    }

    private int count(int what) {
        need(in(what, 0, 7), BEYOND);
        return List.of(s.pieces.size(), s.likings.size(), on().size(), s.musts.size(), s.pasts.size(),
                s.tape.length(), s.waiting.size(), Math.min(30, trace.size())).get(what);
    }
}
