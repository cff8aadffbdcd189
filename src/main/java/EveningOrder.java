/**
 * What comes after what in one evening: pieces, likings and musts, what a row of pieces is worth, and the
 * rows that are best. The numbered promises stand in the document; all calls answer numbers, ERRORS among
 * them, and none throws.
 */
public final class EveningOrder {
    private static final int LOW = -1000000;
    private static final int BEYOND = 1;
    private static final int NONE = 2;
    private static final int STATE = 3;
    private static final int FULL = 4;
    private static final int KIND = 5;
    private static final int PARTED = 6;

    private static final int MOST_PIECES = 12;
    private static final int MOST_LIKINGS = 10;
    private static final int MOST_MUSTS = 10;
    private static final int MOST_PASTS = 8;
    private static final int MOST_WAITING = 12;
    private static final int MOST_BYTES = 50;
    private static final int MOST_OPEN = 5;
    private static final int MOST_NUMBERS = 24;
    private static final int MOST_TRACED = 30;
    private static final int MOST_NAMES = 5;
    private static final int MOST_SEARCHED = 6;
    private static final int MOST_ORDERED = 10;
    private static final int MOST_SLIDES = 20;
    private static final int MOST_MINUTES = 999;
    private static final int PLAYERS = 8;
    private static final int SHEETS = 4;

    private static final int CHANGE = 0;
    private static final int MEND = 1;
    private static final int PAUSE = 2;
    private static final int LIMIT = 3;
    private static final int RULES = 4;
    private static final int[] RULE_MOST = {9, 9, 60, 999};

    private static final int LIKING = 0;
    private static final int NEXT = 1;
    private static final int SINCE = 2;
    private static final int PLACE = 3;
    private static final int TIRED = 4;
    private static final int STAGE = 5;
    private static final int BOUND = 6;
    private static final int[] KIND_ABOVE = {-1, LIKING, LIKING, LIKING, LIKING, NEXT, LIKING};

    private static final int NOT_BEHIND = 0;
    private static final int BESIDE = 1;
    private static final int ENDS_BY = 2;
    private static final int NOT_FIRST = 3;
    private static final int NOT_LAST = 4;
    private static final int AHEAD = 5;
    private static final int NOT_REOPENING = 6;
    private static final int FIRST_HALF = 7;

    private static final int SAYS = 0;
    private static final int HEARS = 1;
    private static final int ASKS = 2;
    private static final int PARTS = 3;
    private static final int ACTS = 4;

    /** All downs (1 .. 9) divide this, so that every WORTH is a whole number of its parts. */
    private static final int LINE = 2520;

    private final Book book = new Book();
    private Book kept = null;
    private int images = 0;
    private final Sheet[] sheets = new Sheet[SHEETS];
    private final int[] errors = new int[PARTED + 1];
    private final Row row = new Row();
    private final Row otherRow = new Row();
    private final Walk walk = new Walk(book);
    private final Search search = new Search(book, walk);
    private final Sets sets = new Sets(book);
    private final Reader reader = new Reader();
    private final Voices voices = new Voices();
    private final long[] leanings = new long[MOST_PASTS * MOST_LIKINGS];

    public EveningOrder() {
        for (int i = 0; i < SHEETS; i++) {
            sheets[i] = new Sheet();
        }
    }

    // ---- pieces, likings, musts

    public int piece(int sound, int players, int things, int effort) {
        int minutes = sound / 1000;
        int key = sound % 1000 / 10;
        boolean sounds = sound >= 0 && within(minutes, 1, 60) && key <= 11;
        if (!sounds || !within(players, 0, 255) || !within(things, 0, 255) || !within(effort, 0, 99)) {
            return error(BEYOND);
        }
        if (book.pieceCount >= MOST_PIECES) {
            return error(FULL);
        }
        Piece made = book.pieces[book.pieceCount];
        made.minutes = minutes;
        made.key = key;
        made.loud = sound % 10;
        made.players = players;
        made.things = things;
        made.effort = effort;
        forget();
        return book.pieceCount++;
    }

    public int pieceIs(int piece, int what) {
        if (!within(piece, 0, book.pieceCount - 1) || !within(what, 0, 5)) {
            return error(BEYOND);
        }
        Piece asked = book.pieces[piece];
        switch (what) {
            case 0: return asked.minutes;
            case 1: return asked.key;
            case 2: return asked.loud;
            case 3: return asked.players;
            case 4: return asked.things;
            default: return asked.effort;
        }
    }

    public int rule(int what, int v) {
        if (!within(what, 0, RULES - 1) || !within(v, 0, RULE_MOST[what])) {
            return error(BEYOND);
        }
        int before = book.rules[what];
        book.rules[what] = v;
        forget();
        return before;
    }

    public int liking(int kind, int up, int down) {
        if (!within(kind, LIKING, BOUND) || !within(up, -9, 9) || !within(down, 1, 9)) {
            return error(BEYOND);
        }
        if (book.likingCount >= MOST_LIKINGS) {
            return error(FULL);
        }
        book.likings[book.likingCount].become(kind, up, down);
        forget();
        return book.likingCount++;
    }

    public int turn(int liking, boolean on) {
        if (isNoLiking(liking)) {
            return error(BEYOND);
        }
        Liking turned = book.likings[liking];
        boolean isNew = turned.on != on;
        turned.on = on;
        forget();
        return isNew ? 1 : 0;
    }

    public int as(int liking, int kind) {
        if (isNoLiking(liking) || !within(kind, LIKING, BOUND)) {
            return error(BEYOND);
        }
        Liking asked = book.likings[liking];
        return asked.isOf(kind) ? 100 * asked.up + asked.down : error(KIND);
    }

    public int must(int sort, int pair, int m) {
        int a = pair / 100;
        int b = pair % 100;
        boolean sorted = within(sort, NOT_BEHIND, FIRST_HALF) && within(m, 0, 999);
        boolean paired = pair >= 0 && a < book.pieceCount && b < book.pieceCount && a != b;
        if (!sorted || !paired) {
            return error(BEYOND);
        }
        if (book.mustCount >= MOST_MUSTS) {
            return error(FULL);
        }
        Must made = book.musts[book.mustCount];
        made.sort = sort;
        made.a = a;
        made.b = b;
        made.m = m;
        forget();
        return book.mustCount++;
    }

    public int feed(long word, int n) {
        if (!within(n, 1, 8)) {
            return error(BEYOND);
        }
        if (book.tapeLength + n > MOST_BYTES) {
            return error(FULL);
        }
        for (int i = 0; i < n; i++) {
            book.tape[book.tapeLength + i] = (byte) (word >> 8 * i);
        }
        book.tapeLength += n;
        return book.tapeLength;
    }

    public int text(int liking) {
        if (isNoLiking(liking)) {
            return error(BEYOND);
        }
        Liking told = book.likings[liking];
        if (told.names().isEmpty()) {
            return error(KIND);
        }
        int answer = reader.readTape(book.tape, book.tapeLength, told.names());
        book.tapeLength = 0;
        if (answer >= 0) {
            told.takeText(reader.code, reader.codeLength);
            forget();
        }
        return answer;
    }

    // ---- a row

    public long worth(int sheet, int interval, int part) {
        int fault = rowFault(sheet, interval, within(part, 0, 1));
        if (fault != 0) {
            return error(fault);
        }
        walk.along(row, book.likingsOn());
        return partOf(walk.total(), part);
    }

    public int worthBy(int sheet, int interval, int liking) {
        int fault = rowFault(sheet, interval, !isNoLiking(liking));
        if (fault != 0) {
            return error(fault);
        }
        walk.along(row, 1 << liking);
        return walk.totalBy(liking);
    }

    public int tired(int sheet, int interval, int player, int i) {
        int fault = rowFault(sheet, interval, within(player, 0, PLAYERS - 1));
        if (fault == 0 && !within(i, 0, row.length - 1)) {
            fault = BEYOND;
        }
        if (fault != 0) {
            return error(fault);
        }
        walk.along(row, 0);
        return walk.tired[(i + 1) * PLAYERS + player];
    }

    public int judge(int sheet, int interval, int what) {
        int fault = rowFault(sheet, interval, within(what, 0, 4));
        if (fault != 0) {
            return error(fault);
        }
        walk.along(row, 0);
        switch (what) {
            case 0: return walk.end[row.length];
            case 1: return walk.carried[row.length];
            case 2: return walk.mostTired[row.length];
            case 3: return walk.broken[row.length];
            default: return walk.isGood(row.length) ? 1 : 0;
        }
    }

    public int begins(int sheet, int interval, int i) {
        int fault = rowFault(sheet, interval, true);
        if (fault == 0 && !within(i, 0, row.length - 1)) {
            fault = BEYOND;
        }
        if (fault != 0) {
            return error(fault);
        }
        walk.along(row, 0);
        return walk.begin[i];
    }

    // ---- all rows

    public int best(int set, int what) {
        int fault = searchFault(set, what >= -1);
        if (fault == 0 && (search.good == 0 || what >= search.size)) {
            fault = NONE;
        }
        if (fault != 0) {
            return error(fault);
        }
        return what < 0 ? search.found.interval : search.found.pieces[what];
    }

    public long most(int set, int part) {
        int fault = searchFault(set, within(part, 0, 1));
        if (fault == 0 && search.good == 0) {
            fault = NONE;
        }
        return fault != 0 ? error(fault) : partOf(search.most, part);
    }

    public int equals(int set, int what) {
        int fault = searchFault(set, within(what, 0, 2));
        if (fault != 0) {
            return error(fault);
        }
        return what == 0 ? search.good : what == 1 ? search.equal : search.fixed;
    }

    public int bars(int set) {
        int fault = searchFault(set, true);
        if (fault == 0 && search.good > 0) {
            fault = STATE;
        }
        return fault != 0 ? error(fault) : search.barring();
    }

    public int fewest(int set, int what) {
        int fault = what < -1 ? BEYOND : setFault(set, MOST_ORDERED);
        if (fault == 0 && what >= Integer.bitCount(set)) {
            fault = NONE;
        }
        if (fault != 0) {
            return error(fault);
        }
        sets.orderFewest(set);
        return what < 0 ? sets.fewestCarried : sets.order[what];
    }

    public int better(int sheet, int interval) {
        int fault = rowFault(sheet, interval, true);
        if (fault != 0) {
            return error(fault);
        }
        int change = search.changeOfTwo(row);
        return change < 0 ? error(STATE) : change;
    }

    public int slides(int sheet, int interval, int n) {
        int fault = rowFault(sheet, interval, within(n, 1, MOST_SLIDES));
        if (fault != 0) {
            return error(fault);
        }
        int done = 0;
        for (int i = 0; i < n; i++) {
            int change = search.changeOfTwo(row);
            if (change < 0) {
                break;
            }
            row.swap(change / 100, change % 100);
            done++;
        }
        sheets[sheet].takePieces(row);
        return done;
    }

    public int ill(int sheet, int interval, int out, int what) {
        int fault = rowFault(sheet, interval, what >= -2);
        if (fault == 0 && !within(row.length, 2, MOST_SEARCHED + 1)) {
            fault = KIND;
        }
        if (fault == 0 && !within(out, 0, row.length - 1)) {
            fault = BEYOND;
        }
        if (fault == 0) {
            search.moveLeast(row, out);
            if (search.good == 0 || what >= search.size) {
                fault = NONE;
            }
        }
        if (fault != 0) {
            return error(fault);
        }
        return what == -1 ? search.leastMoved : what == -2 ? search.found.interval : search.found.pieces[what];
    }

    public int two(int minutes) {
        if (!within(minutes, 1, MOST_MINUTES)) {
            return error(BEYOND);
        }
        int first = sets.firstEvening(minutes);
        return first < 0 ? error(NONE) : first;
    }

    // ---- pasts

    public int past(int sheet, int other, int interval) {
        if (isNoSheet(sheet) || isNoSheet(other)) {
            return error(BEYOND);
        }
        if (sheets[sheet].bits == 0 || sheets[other].bits == 0) {
            return error(NONE);
        }
        boolean both = row.takesSheet(sheets[sheet], interval, book.pieceCount)
                && otherRow.takesSheet(sheets[other], interval, book.pieceCount);
        if (!both) {
            return error(KIND);
        }
        if (book.pastCount >= MOST_PASTS) {
            return error(FULL);
        }
        book.liked[book.pastCount].copyFrom(row);
        book.lessLiked[book.pastCount].copyFrom(otherRow);
        book.pastCount++;
        return book.pastCount;
    }

    public int plain(int what) {
        if (!within(what, -1, 0)) {
            return error(BEYOND);
        }
        weighPasts();
        int telling = 0;
        int plainest = -1;
        for (int set = 0; set < 1 << book.likingCount; set++) {
            if (!tellsPasts(set)) {
                continue;
            }
            telling++;
            if (plainest < 0 || Integer.bitCount(set) < Integer.bitCount(plainest)) {
                plainest = set;
            }
        }
        if (what < 0) {
            return telling;
        }
        return plainest < 0 ? error(NONE) : plainest;
    }

    // ---- voices, sheets, images, what is told

    public int voice(int liking, int act, int x) {
        if (isNoLiking(liking) || !within(act, SAYS, PARTS)) {
            return error(BEYOND);
        }
        int answer = voices.speak(book.likings[liking], liking, act, x);
        return voices.parted ? error(PARTED) : answer;
    }

    public int trace(int i) {
        return within(i, 0, voices.bodyCount - 1) ? voices.bodies[i] : error(NONE);
    }

    public int sheet(int sheet, int bits, int n) {
        boolean wide = bits == 0 || bits == 8 || bits == 16 || bits == 32;
        if (isNoSheet(sheet) || !wide) {
            return error(BEYOND);
        }
        if (bits != 0 && n < 0) {
            return error(STATE);
        }
        if (bits != 0 && n > MOST_NUMBERS) {
            return error(BEYOND);
        }
        sheets[sheet].become(bits, bits == 0 ? 0 : n);
        return 1;
    }

    public int put(int sheet, int i, int v) {
        int fault = numberFault(sheet, i);
        if (fault != 0) {
            return error(fault);
        }
        sheets[sheet].write(i, v);
        return 1;
    }

    public int get(int sheet, int i) {
        int fault = numberFault(sheet, i);
        return fault != 0 ? error(fault) : sheets[sheet].numbers[i];
    }

    public int move(int sheet, int i, int other, int j, int n) {
        if (isNoSheet(sheet) || isNoSheet(other)) {
            return error(BEYOND);
        }
        Sheet from = sheets[sheet];
        Sheet to = sheets[other];
        if (from.bits == 0 || to.bits == 0) {
            return error(NONE);
        }
        if (from.bits != to.bits) {
            return error(KIND);
        }
        if (!from.holds(i, n) || !to.holds(j, n)) {
            return error(BEYOND);
        }
        System.arraycopy(from.numbers, i, to.numbers, j, n);
        return n;
    }

    public int image() {
        if (kept == null) {
            kept = new Book();
        }
        kept.copyFrom(book);
        images++;
        return images;
    }

    public int restore() {
        if (kept == null) {
            return error(NONE);
        }
        book.copyFrom(kept);
        forget();
        return book.pieceCount;
    }

    public int tell(int v) {
        if (book.waitCount >= MOST_WAITING) {
            return error(FULL);
        }
        book.waiting[book.waitCount] = v;
        book.waitCount++;
        return book.waitCount;
    }

    public int check(int set) {
        int waited = book.waitCount;
        book.waitCount = 0;
        int fault = searchFault(set, true);
        if (fault == 0 && search.good == 0) {
            fault = NONE;
        }
        return fault != 0 ? error(fault) : 1 + firstUnlike(waited);
    }

    public int count(int what) {
        switch (what) {
            case 0: return book.pieceCount;
            case 1: return book.likingCount;
            case 2: return Integer.bitCount(book.likingsOn());
            case 3: return book.mustCount;
            case 4: return book.pastCount;
            case 5: return book.tapeLength;
            case 6: return book.waitCount;
            case 7: return voices.bodyCount;
            default: return error(BEYOND);
        }
    }

    public int told(int k) {
        return within(k, BEYOND, PARTED) ? errors[k] : error(BEYOND);
    }

    // ---- what these share

    private int error(int k) {
        if (within(k, BEYOND, PARTED)) {
            errors[k]++;
        }
        return LOW - k;
    }

    /** What was searched may be answered again as long as nothing has changed that it hangs on. */
    private void forget() {
        search.known = false;
        sets.known = false;
    }

    private boolean isNoLiking(int liking) {
        return !within(liking, 0, book.likingCount - 1);
    }

    private static boolean isNoSheet(int sheet) {
        return !within(sheet, 0, SHEETS - 1);
    }

    /**
     * 0 if the SHEET tells a ROW (it stands in the field row then), else which ERROR; othersWithin: whether the
     * call's other numbers are within their bounds, which is asked together with the SHEET's.
     */
    private int rowFault(int sheet, int interval, boolean othersWithin) {
        if (isNoSheet(sheet) || !othersWithin) {
            return BEYOND;
        }
        if (sheets[sheet].bits == 0) {
            return NONE;
        }
        return row.takesSheet(sheets[sheet], interval, book.pieceCount) ? 0 : KIND;
    }

    private int numberFault(int sheet, int i) {
        if (isNoSheet(sheet)) {
            return BEYOND;
        }
        if (sheets[sheet].bits == 0) {
            return NONE;
        }
        return sheets[sheet].holds(i, 1) ? 0 : BEYOND;
    }

    private int setFault(int set, int mostPieces) {
        if (set >>> book.pieceCount != 0) {
            return BEYOND;
        }
        return set == 0 || Integer.bitCount(set) > mostPieces ? KIND : 0;
    }

    /** 0 if the set could be searched (the search has its answers then), else which ERROR. */
    private int searchFault(int set, boolean othersWithin) {
        int fault = othersWithin ? setFault(set, MOST_SEARCHED) : BEYOND;
        if (fault == 0) {
            search.find(set);
        }
        return fault;
    }

    /** The first place at which what waited isn't what was found; -1 if there is none. */
    private int firstUnlike(int waited) {
        for (int i = 0; i < waited || i < search.size; i++) {
            boolean alike = i < waited && i < search.size && book.waiting[i] == search.found.pieces[i];
            if (!alike) {
                return i;
            }
        }
        return -1;
    }

    /** By how much each LIKING alone, with its WEIGHT, holds for the first ROW of each PAST. */
    private void weighPasts() {
        int all = (1 << book.likingCount) - 1;
        for (int i = 0; i < book.pastCount; i++) {
            walk.along(book.liked[i], all);
            for (int j = 0; j < book.likingCount; j++) {
                leanings[i * MOST_LIKINGS + j] = walk.totalBy(j);
            }
            walk.along(book.lessLiked[i], all);
            for (int j = 0; j < book.likingCount; j++) {
                long more = leanings[i * MOST_LIKINGS + j] - walk.totalBy(j);
                leanings[i * MOST_LIKINGS + j] = more * book.likings[j].weight;
            }
        }
    }

    private boolean tellsPasts(int set) {
        for (int i = 0; i < book.pastCount; i++) {
            long sum = 0;
            for (int j = 0; j < book.likingCount; j++) {
                if (isIn(set, j)) {
                    sum += leanings[i * MOST_LIKINGS + j];
                }
            }
            if (sum <= 0) {
                return false;
            }
        }
        return true;
    }

    private static boolean within(int v, int least, int greatest) {
        return v >= least && v <= greatest;
    }

    private static boolean isIn(int set, int i) {
        return (set >> i & 1) != 0;
    }

    private static int wayRound(int key, int other) {
        int up = key < other ? other - key : key - other;
        return up <= 6 ? up : 12 - up;
    }

    /** A number of LINE's parts, told in least terms. */
    private static long partOf(long parts, int part) {
        long a = LINE;
        long b = Math.abs(parts);
        for (int i = 0; i < 100 && b != 0; i++) {
            long rest = a % b;
            a = b;
            b = rest;
        }
        long common = Math.max(1, a);
        return part == 0 ? parts / common : LINE / common;
    }

    private static final class Piece {
        int minutes;
        int key;
        int loud;
        int players;
        int things;
        int effort;

        void copyFrom(Piece other) {
            minutes = other.minutes;
            key = other.key;
            loud = other.loud;
            players = other.players;
            things = other.things;
            effort = other.effort;
        }

        int carriedTo(Piece other) {
            return Integer.bitCount(things ^ other.things);
        }
    }

    private static final class Must {
        int sort;
        int a;
        int b;
        int m;

        void copyFrom(Must other) {
            sort = other.sort;
            a = other.a;
            b = other.b;
            m = other.m;
        }
    }

    private static final class Liking {
        /** Codes of a TEXT below this are NUMBERS, those from it on NAMES by their place. */
        static final int NAME = 100;
        /** From this on they are signs. */
        static final int SIGN = 200;
        static final int MINUS = SIGN + '~';

        int kind;
        int up;
        int down = 1;
        int weight;
        boolean on;
        int codeLength;
        final int[] code = new int[MOST_BYTES];

        void become(int newKind, int newUp, int newDown) {
            kind = newKind;
            up = newUp;
            down = newDown;
            weight = newDown == 0 ? 0 : newUp * (LINE / newDown);
            on = true;
            codeLength = 0;
        }

        void copyFrom(Liking other) {
            kind = other.kind;
            up = other.up;
            down = other.down;
            weight = other.weight;
            on = other.on;
            takeText(other.code, other.codeLength);
        }

        void takeText(int[] from, int length) {
            codeLength = Math.min(length, Math.min(code.length, from.length));
            System.arraycopy(from, 0, code, 0, codeLength);
        }

        boolean hasText() {
            return codeLength > 0;
        }

        boolean isOf(int asked) {
            int own = kind;
            for (int i = 0; i < KIND_ABOVE.length && own >= 0; i++) {
                if (own == asked) {
                    return true;
                }
                own = KIND_ABOVE[own];
            }
            return false;
        }

        /** NAMES of its TEXTS, each a sign; empty if it has no TEXTS. */
        String names() {
            switch (kind) {
                case NEXT:
                case STAGE: return "abks";
                case SINCE: return "m";
                case PLACE: return "pnlij";
                case TIRED: return "t";
                default: return "";
            }
        }

        /** The TEXT's code has operands ahead of their signs: each sign takes its own from the top of the heap. */
        int comesTo(int[] named, int[] heap) {
            int top = 0;
            for (int i = 0; i < codeLength; i++) {
                int sign = code[i];
                if (sign < SIGN) {
                    if (top >= heap.length || sign - NAME >= named.length) {
                        return 0;
                    }
                    heap[top] = sign < NAME ? sign : named[sign - NAME];
                    top++;
                    continue;
                }
                int taken = sign == MINUS ? 1 : sign == SIGN + '?' ? 3 : 2;
                if (top < taken) {
                    return 0;
                }
                top -= taken - 1;
                if (taken == 1) {
                    heap[top - 1] = -heap[top - 1];
                } else if (taken == 3) {
                    heap[top - 1] = heap[top - 1] != 0 ? heap[top] : heap[top + 1];
                } else {
                    heap[top - 1] = joined(sign - SIGN, heap[top - 1], heap[top]);
                }
            }
            return heap[0];
        }

        private static int joined(int sign, int left, int right) {
            switch (sign) {
                case '+': return left + right;
                case '-': return left - right;
                case '*': return left * right;
                case '/': return right == 0 ? 0 : left / right;
                case '<': return left < right ? 1 : 0;
                default: return left == right ? 1 : 0;
            }
        }
    }

    private static final class Row {
        final int[] pieces = new int[MOST_PIECES];
        int length;
        int interval;

        void copyFrom(Row other) {
            length = other.length;
            interval = other.interval;
            System.arraycopy(other.pieces, 0, pieces, 0, MOST_PIECES);
        }

        /** Whether the SHEET tells a ROW; what stands here is one only then. */
        boolean takesSheet(Sheet sheet, int behind, int pieceCount) {
            if (!within(sheet.length, 1, MOST_PIECES) || !within(behind, 0, sheet.length - 1)) {
                return false;
            }
            int seen = 0;
            for (int i = 0; i < sheet.length; i++) {
                int number = sheet.numbers[i];
                if (!within(number, 0, pieceCount - 1) || isIn(seen, number)) {
                    return false;
                }
                seen |= 1 << number;
                pieces[i] = number;
            }
            length = sheet.length;
            interval = behind;
            return true;
        }

        void swap(int i, int j) {
            if (!within(i, 0, MOST_PIECES - 1) || !within(j, 0, MOST_PIECES - 1)) {
                return;
            }
            int piece = pieces[i];
            pieces[i] = pieces[j];
            pieces[j] = piece;
        }
    }

    private static final class Sheet {
        final int[] numbers = new int[MOST_NUMBERS];
        /** 0: it is missing. */
        int bits;
        int length;

        void become(int newBits, int n) {
            bits = newBits;
            length = n;
            for (int i = 0; i < MOST_NUMBERS; i++) {
                numbers[i] = 0;
            }
        }

        boolean holds(int from, int n) {
            return from >= 0 && n >= 0 && n <= length && from <= length - n;
        }

        void write(int i, int v) {
            if (holds(i, 1)) {
                int above = 32 - bits;
                numbers[i] = v << above >> above;
            }
        }

        void takePieces(Row row) {
            for (int i = 0; i < row.length; i++) {
                write(i, row.pieces[i]);
            }
        }
    }

    /** All that an IMAGE keeps. */
    private static final class Book {
        final Piece[] pieces = new Piece[MOST_PIECES];
        int pieceCount;
        final int[] rules = {1, 1, 20, 999};
        final Liking[] likings = new Liking[MOST_LIKINGS];
        int likingCount;
        final Must[] musts = new Must[MOST_MUSTS];
        int mustCount;
        final byte[] tape = new byte[MOST_BYTES];
        int tapeLength;
        final Row[] liked = new Row[MOST_PASTS];
        final Row[] lessLiked = new Row[MOST_PASTS];
        int pastCount;
        final int[] waiting = new int[MOST_WAITING];
        int waitCount;

        Book() {
            for (int i = 0; i < MOST_PIECES; i++) {
                pieces[i] = new Piece();
            }
            for (int i = 0; i < MOST_LIKINGS; i++) {
                likings[i] = new Liking();
            }
            for (int i = 0; i < MOST_MUSTS; i++) {
                musts[i] = new Must();
            }
            for (int i = 0; i < MOST_PASTS; i++) {
                liked[i] = new Row();
                lessLiked[i] = new Row();
            }
        }

        void copyFrom(Book other) {
            pieceCount = other.pieceCount;
            for (int i = 0; i < pieceCount; i++) {
                pieces[i].copyFrom(other.pieces[i]);
            }
            likingCount = other.likingCount;
            for (int i = 0; i < likingCount; i++) {
                likings[i].copyFrom(other.likings[i]);
            }
            mustCount = other.mustCount;
            for (int i = 0; i < mustCount; i++) {
                musts[i].copyFrom(other.musts[i]);
            }
            pastCount = other.pastCount;
            for (int i = 0; i < pastCount; i++) {
                liked[i].copyFrom(other.liked[i]);
                lessLiked[i].copyFrom(other.lessLiked[i]);
            }
            tapeLength = other.tapeLength;
            System.arraycopy(other.tape, 0, tape, 0, MOST_BYTES);
            waitCount = other.waitCount;
            System.arraycopy(other.waiting, 0, waiting, 0, MOST_WAITING);
            System.arraycopy(other.rules, 0, rules, 0, RULES);
        }

        int likingsOn() {
            int on = 0;
            for (int i = 0; i < likingCount; i++) {
                if (likings[i].on) {
                    on |= 1 << i;
                }
            }
            return on;
        }
    }

    /** Reads TEXTS; where one of its methods answers false, place is the FAULT. */
    private static final class Reader {
        final int[] code = new int[MOST_BYTES];
        int codeLength;
        private final byte[] bytes = new byte[MOST_BYTES];
        private int length;
        private String names = "";
        private int place;
        private int open;
        private int signs;

        /** How many signs the TEXT has (its code stands here then), or -10 less its FAULT. */
        int readTape(byte[] tape, int tapeLength, String itsNames) {
            length = Math.max(0, Math.min(tapeLength, Math.min(tape.length, MOST_BYTES)));
            System.arraycopy(tape, 0, bytes, 0, length);
            names = itsNames;
            codeLength = 0;
            place = 0;
            open = 0;
            signs = 0;
            return readChoice() && place == length ? signs : -10 - place;
        }

        private boolean readChoice() {
            if (!readSum()) {
                return false;
            }
            if (!isAt('?')) {
                return true;
            }
            if (!opensAnother()) {
                return false;
            }
            signs++;
            if (!readChoice() || !isAt(':')) {
                return false;
            }
            place++;
            if (!readChoice()) {
                return false;
            }
            open--;
            return writes(Liking.SIGN + '?');
        }

        private boolean readSum() {
            boolean read = readProduct();
            for (int i = 0; i < MOST_BYTES && read && (isAt('+') || isAt('-')); i++) {
                int sign = bytes[place];
                place++;
                signs++;
                read = readProduct() && writes(Liking.SIGN + sign);
            }
            return read;
        }

        private boolean readProduct() {
            boolean read = readOne();
            for (int i = 0; i < MOST_BYTES && read && (isAt('*') || isAt('/') || isAt('<') || isAt('=')); i++) {
                int sign = bytes[place];
                place++;
                signs++;
                read = readOne() && writes(Liking.SIGN + sign);
            }
            return read;
        }

        private boolean readOne() {
            if (isAt('-')) {
                return readNegated();
            }
            if (isAt('(')) {
                return readBraced();
            }
            if (isAtDigit()) {
                return readNumber();
            }
            int name = place < length ? names.indexOf((char) (bytes[place] & 255)) : -1;
            if (name < 0) {
                return false;
            }
            place++;
            return writes(Liking.NAME + name);
        }

        private boolean readNegated() {
            if (!opensAnother()) {
                return false;
            }
            signs++;
            if (!readOne()) {
                return false;
            }
            open--;
            return writes(Liking.MINUS);
        }

        private boolean readBraced() {
            if (!opensAnother() || !readChoice() || !isAt(')')) {
                return false;
            }
            open--;
            place++;
            return true;
        }

        private boolean readNumber() {
            int number = 0;
            for (int digits = 0; digits < 2 && isAtDigit(); digits++) {
                number = 10 * number + bytes[place] - '0';
                place++;
            }
            return writes(number);
        }

        /** Goes past a sign that stays open, unless as many are as may be. */
        private boolean opensAnother() {
            if (open >= MOST_OPEN) {
                return false;
            }
            open++;
            place++;
            return true;
        }

        private boolean isAt(char sign) {
            return place < length && bytes[place] == sign;
        }

        private boolean isAtDigit() {
            return place < length && bytes[place] >= '0' && bytes[place] <= '9';
        }

        private boolean writes(int written) {
            if (codeLength >= code.length) {
                return false;
            }
            code[codeLength] = written;
            codeLength++;
            return true;
        }
    }

    /**
     * Goes along a ROW, place by place. What holds ahead of place p stands at p in its rows (so at p + 1 what
     * holds behind it): ROWS that begin alike share their beginnings.
     */
    private static final class Walk {
        private final Book book;
        private int length;
        private int interval;
        private int weighed;
        final int[] row = new int[MOST_PIECES];
        final int[] begin = new int[MOST_PIECES];
        final int[] end = new int[MOST_PIECES + 1];
        final int[] carried = new int[MOST_PIECES + 1];
        final int[] placed = new int[MOST_PIECES + 1];
        final int[] broken = new int[MOST_PIECES + 1];
        final int[] mostTired = new int[MOST_PIECES + 1];
        final int[] tired = new int[(MOST_PIECES + 1) * PLAYERS];
        private final int[] sums = new int[(MOST_PIECES + 1) * MOST_LIKINGS];
        private final int[] named = new int[MOST_NAMES];
        private final int[] heap = new int[MOST_BYTES];

        Walk(Book book) {
            this.book = book;
        }

        /** Ahead of a ROW of so many PIECES; weighed: by which LIKINGS it is to be weighed. */
        void start(int newLength, int newInterval, int newWeighed) {
            length = Math.max(0, Math.min(newLength, MOST_PIECES));
            interval = newInterval;
            weighed = newWeighed;
        }

        void along(Row told, int newWeighed) {
            start(told.length, told.interval, newWeighed);
            for (int p = 0; p < length; p++) {
                step(p, told.pieces[p]);
                weigh(p);
            }
        }

        /** Whether the ROW is GOOD, gone along again from a place on, ahead of which it is as before. */
        boolean isGoodFrom(Row told, int from) {
            for (int p = from; p < length; p++) {
                step(p, told.pieces[p]);
                if (!isGood(p + 1)) {
                    return false;
                }
                weigh(p);
            }
            return true;
        }

        void step(int place, int number) {
            if (!within(place, 0, length - 1) || !within(number, 0, book.pieceCount - 1)) {
                return;
            }
            Piece piece = book.pieces[number];
            int load = place == 0 ? 0 : book.pieces[row[place - 1]].carriedTo(piece);
            int gap = place == interval ? book.rules[PAUSE] : load * book.rules[CHANGE];
            if (place == 0) {
                gap = 0;
            }
            row[place] = number;
            placed[place + 1] = placed[place] | 1 << number;
            carried[place + 1] = carried[place] + load;
            begin[place] = end[place] + gap;
            end[place + 1] = begin[place] + piece.minutes;
            tire(place, piece, gap);
            int breaks = broken[place];
            for (int i = 0; i < book.mustCount; i++) {
                if (isBroken(book.musts[i], place, number)) {
                    breaks |= 1 << i;
                }
            }
            broken[place + 1] = breaks;
        }

        private void tire(int place, Piece piece, int gap) {
            int from = place * PLAYERS;
            int most = mostTired[place];
            for (int i = 0; i < PLAYERS; i++) {
                boolean plays = isIn(piece.players, i);
                int rest = plays ? gap : gap + piece.minutes;
                int now = Math.max(0, tired[from + i] - rest * book.rules[MEND]);
                if (plays) {
                    now += piece.effort;
                }
                tired[from + PLAYERS + i] = now;
                most = Math.max(most, now);
            }
            mostTired[place + 1] = most;
        }

        /** Whether a PIECE breaks a MUST by coming to a place; what it breaks hangs on nothing that comes later. */
        private boolean isBroken(Must must, int place, int number) {
            if (must.sort == BESIDE) {
                int other = number == must.a ? must.b : must.a;
                boolean second = (number == must.a || number == must.b) && isIn(placed[place], other);
                return second && (place == interval || !isRightBehind(place, other));
            }
            if (number != must.a) {
                return false;
            }
            switch (must.sort) {
                case NOT_BEHIND: return isRightBehind(place, must.b);
                case ENDS_BY: return end[place + 1] > must.m;
                case NOT_FIRST: return place == 0;
                case NOT_LAST: return place == length - 1;
                case AHEAD: return isIn(placed[place], must.b);
                case NOT_REOPENING: return interval > 0 && place == interval;
                default: return interval > 0 && place >= interval;
            }
        }

        private boolean isRightBehind(int place, int number) {
            return place > 0 && row[place - 1] == number;
        }

        boolean isNoneTooTired(int places) {
            return within(places, 0, length) && mostTired[places] <= book.rules[LIMIT];
        }

        boolean isGood(int places) {
            return isNoneTooTired(places) && broken[places] == 0;
        }

        void weigh(int place) {
            if (!within(place, 0, length - 1)) {
                return;
            }
            int from = place * MOST_LIKINGS;
            for (int i = 0; i < book.likingCount; i++) {
                if (isIn(weighed, i)) {
                    sums[from + MOST_LIKINGS + i] = sums[from + i] + worthAt(book.likings[i], place);
                }
            }
        }

        private int worthAt(Liking liking, int place) {
            boolean counts;
            int withoutText = 0;
            switch (liking.kind) {
                case NEXT:
                case STAGE:
                    counts = namesPair(place);
                    break;
                case SINCE:
                    counts = namesSince(place);
                    withoutText = named[0];
                    break;
                case PLACE:
                    counts = namesPlace(place);
                    break;
                case TIRED:
                    counts = namesTired(place);
                    withoutText = named[0];
                    break;
                default:
                    counts = false;
                    break;
            }
            if (!counts) {
                return 0;
            }
            int worth = liking.hasText() ? liking.comesTo(named, heap) : withoutText;
            return liking.kind == STAGE ? worth - named[3] : worth;
        }

        // What names..() answers: whether there is something to weigh at the place; NAMES have their numbers then.

        private boolean namesPair(int place) {
            if (place == 0 || place == interval) {
                return false;
            }
            Piece first = book.pieces[row[place - 1]];
            Piece second = book.pieces[row[place]];
            named[0] = first.loud;
            named[1] = second.loud;
            named[2] = wayRound(first.key, second.key);
            named[3] = carried[place + 1] - carried[place];
            return true;
        }

        private boolean namesSince(int place) {
            int key = book.pieces[row[place]].key;
            for (int p = place - 1; p >= 0; p--) {
                if (book.pieces[row[p]].key == key) {
                    named[0] = begin[place] - end[p + 1];
                    return true;
                }
            }
            return false;
        }

        private boolean namesPlace(int place) {
            boolean closes = place == length - 1 || place == interval - 1;
            boolean opens = place == 0 || place == interval;
            named[0] = place;
            named[1] = length;
            named[2] = book.pieces[row[place]].loud;
            named[3] = closes ? 1 : 0;
            named[4] = opens ? 1 : 0;
            return true;
        }

        private boolean namesTired(int place) {
            int players = book.pieces[row[place]].players;
            int most = 0;
            for (int i = 0; i < PLAYERS; i++) {
                if (isIn(players, i)) {
                    most = Math.max(most, tired[(place + 1) * PLAYERS + i]);
                }
            }
            named[0] = most;
            return true;
        }

        /** What the ROW, gone along to its end, is worth by a LIKING by which it was weighed. */
        int totalBy(int liking) {
            if (!within(liking, 0, book.likingCount - 1)) {
                return 0;
            }
            boolean bound = book.likings[liking].kind == BOUND;
            return bound ? -Integer.bitCount(broken[length]) : sums[length * MOST_LIKINGS + liking];
        }

        /** WORTH of the ROW by the LIKINGS by which it was weighed, in LINE's parts. */
        long total() {
            long total = 0;
            for (int i = 0; i < book.likingCount; i++) {
                if (isIn(weighed, i)) {
                    total += (long) totalBy(i) * book.likings[i].weight;
                }
            }
            return total;
        }
    }

    /** Goes through all ROWS of a set. */
    private static final class Search {
        private final Book book;
        private final Walk walk;
        private final int[] members = new int[MOST_PIECES];
        /** Whether what stands here is what find() has found of the set. */
        boolean known;
        private int set;
        int size;
        int good;
        int equal;
        int fixed;
        long most;
        int leastMoved;
        final Row found = new Row();
        private final int[] placesBefore = new int[MOST_PIECES];
        /** Made when first needed, then used again. */
        private boolean[] usedBreakings = null;

        Search(Book book, Walk walk) {
            this.book = book;
            this.walk = walk;
        }

        private void gather(int newSet) {
            set = newSet;
            size = 0;
            good = 0;
            equal = 0;
            fixed = 0;
            for (int i = 0; i < book.pieceCount; i++) {
                if (isIn(set, i)) {
                    members[size] = i;
                    size++;
                }
            }
        }

        void find(int newSet) {
            if (known && set == newSet) {
                return;
            }
            gather(newSet);
            int on = book.likingsOn();
            for (int interval = 0; interval < size; interval++) {
                walk.start(size, interval, on);
                goOnGood(0, interval);
            }
            known = true;
        }

        private void goOnGood(int place, int interval) {
            if (place >= size) {
                takeGood(interval);
                return;
            }
            for (int i = 0; i < size; i++) {
                int number = members[i];
                if (isIn(walk.placed[place], number)) {
                    continue;
                }
                walk.step(place, number);
                if (walk.isGood(place + 1)) {
                    walk.weigh(place);
                    goOnGood(place + 1, interval);
                }
            }
        }

        private void takeGood(int interval) {
            long worth = walk.total();
            good++;
            if (good == 1 || worth > most) {
                most = worth;
                equal = 1;
                fixed = set;
                keepFound(interval);
            } else if (worth == most) {
                equal++;
                takeEqual(interval);
            }
        }

        private void takeEqual(int interval) {
            boolean ahead = false;
            boolean alike = true;
            for (int p = 0; p < size; p++) {
                int before = found.pieces[p];
                if (walk.row[p] != before) {
                    fixed &= ~(1 << before);
                    ahead = alike ? walk.row[p] < before : ahead;
                    alike = false;
                }
            }
            // find() has THE INTERVAL outside of the orders, so a later ROW may still be the first one
            if (ahead) {
                keepFound(interval);
            }
        }

        private void keepFound(int interval) {
            found.length = size;
            found.interval = interval;
            System.arraycopy(walk.row, 0, found.pieces, 0, MOST_PIECES);
        }

        /** BARS of the set that find() has gone through, without any GOOD ROW. */
        int barring() {
            boolean[] breakings = breakingsBegun();
            for (int interval = 0; interval < size; interval++) {
                walk.start(size, interval, 0);
                goOnAny(0, breakings);
            }
            spread(breakings);
            int all = (1 << book.mustCount) - 1;
            int fewest = all;
            for (int bars = 0; bars <= all; bars++) {
                // a ROW of which no MUST of these is broken breaks others only
                if (!breakings[all & ~bars] && Integer.bitCount(bars) < Integer.bitCount(fewest)) {
                    fewest = bars;
                }
            }
            return fewest;
        }

        private boolean[] breakingsBegun() {
            if (usedBreakings == null) {
                usedBreakings = new boolean[1 << MOST_MUSTS];
            }
            for (int i = 0; i < usedBreakings.length; i++) {
                usedBreakings[i] = false;
            }
            return usedBreakings;
        }

        /** Marks which sets of MUSTS are broken, each by some ROW in which nobody is TOO TIRED. */
        private void goOnAny(int place, boolean[] breakings) {
            if (place >= size) {
                int broken = walk.broken[size];
                if (within(broken, 0, breakings.length - 1)) {
                    breakings[broken] = true;
                }
                return;
            }
            for (int i = 0; i < size; i++) {
                int number = members[i];
                if (isIn(walk.placed[place], number)) {
                    continue;
                }
                walk.step(place, number);
                if (walk.isNoneTooTired(place + 1)) {
                    goOnAny(place + 1, breakings);
                }
            }
        }

        /** From sets of MUSTS that a ROW breaks just so to sets that have all that some ROW breaks. */
        private void spread(boolean[] breakings) {
            for (int i = 0; i < book.mustCount; i++) {
                for (int musts = 0; musts < breakings.length; musts++) {
                    if (isIn(musts, i) && breakings[musts & ~(1 << i)]) {
                        breakings[musts] = true;
                    }
                }
            }
        }

        /** THE BETTER of a ROW: 100 times i, and j; -1 if there is none. */
        int changeOfTwo(Row row) {
            walk.along(row, book.likingsOn());
            long best = walk.total();
            int change = -1;
            for (int i = 0; i + 1 < row.length; i++) {
                for (int j = i + 1; j < row.length; j++) {
                    row.swap(i, j);
                    if (walk.isGoodFrom(row, i) && walk.total() > best) {
                        best = walk.total();
                        change = 100 * i + j;
                    }
                    row.swap(i, j);
                }
                // the next i needs the beginning as it was
                walk.step(i, row.pieces[i]);
                walk.weigh(i);
            }
            return change;
        }

        /** LEAST MOVED from a ROW without the PIECE at a place; good is 0 if there is none. */
        void moveLeast(Row row, int out) {
            int others = 0;
            for (int p = 0; p < row.length; p++) {
                int number = row.pieces[p];
                placesBefore[number] = p;
                if (p != out) {
                    others |= 1 << number;
                }
            }
            known = false;
            gather(others);
            int interval = out < row.interval ? row.interval - 1 : row.interval;
            if (interval >= size) {
                interval = 0;
            }
            walk.start(size, interval, book.likingsOn());
            goOnMoving(0, interval, 0);
        }

        private void goOnMoving(int place, int interval, int moved) {
            if (place >= size) {
                takeMoved(interval, moved);
                return;
            }
            for (int i = 0; i < size; i++) {
                int number = members[i];
                int movedNow = moved + passedBy(number, place);
                if (isIn(walk.placed[place], number) || good > 0 && movedNow > leastMoved) {
                    continue;
                }
                walk.step(place, number);
                if (walk.isGood(place + 1)) {
                    walk.weigh(place);
                    goOnMoving(place + 1, interval, movedNow);
                }
            }
        }

        /** How many of those that stand ahead of a place came behind a PIECE before. */
        private int passedBy(int number, int place) {
            int passed = 0;
            for (int p = 0; p < place; p++) {
                if (placesBefore[walk.row[p]] > placesBefore[number]) {
                    passed++;
                }
            }
            return passed;
        }

        private void takeMoved(int interval, int moved) {
            long worth = walk.total();
            if (good == 0 || moved < leastMoved || moved == leastMoved && worth > most) {
                good = 1;
                leastMoved = moved;
                most = worth;
                keepFound(interval);
            }
        }
    }

    /** What is told of sets of PIECES without going through their ROWS. */
    private static final class Sets {
        private final Book book;
        /** Whether what stands here is FEWEST CARRIED of the set. */
        boolean known;
        private int set;
        private int size;
        int fewestCarried;
        final int[] order = new int[MOST_PIECES];
        private final int[] members = new int[MOST_PIECES];
        /** Made when first needed, then used again. */
        private byte[] usedLeast = null;

        Sets(Book book) {
            this.book = book;
        }

        void orderFewest(int newSet) {
            if (known && set == newSet) {
                return;
            }
            set = newSet;
            size = 0;
            for (int i = 0; i < book.pieceCount && size < MOST_ORDERED; i++) {
                if (isIn(set, i)) {
                    members[size] = i;
                    size++;
                }
            }
            if (usedLeast == null) {
                usedLeast = new byte[(1 << MOST_ORDERED) * MOST_ORDERED];
            }
            fillLeast(usedLeast);
            readOrder(usedLeast);
            known = true;
        }

        /** By a set of members, then one of them: the least CARRIED of the set with that one first. */
        private void fillLeast(byte[] least) {
            for (int some = 1; some < 1 << size; some++) {
                for (int first = 0; first < size; first++) {
                    if (isIn(some, first)) {
                        int next = nextOf(least, some, first);
                        int carried = next < 0 ? 0 : leastBy(least, some, first, next);
                        least[some * MOST_ORDERED + first] = (byte) carried;
                    }
                }
            }
        }

        /** Which member comes behind the first one of some, so that least is CARRIED; -1 if it stands alone. */
        private int nextOf(byte[] least, int some, int first) {
            int rest = some & ~(1 << first);
            int best = -1;
            int bestCarried = 0;
            for (int i = 0; i < size; i++) {
                if (!isIn(rest, i)) {
                    continue;
                }
                int carried = leastBy(least, some, first, i);
                if (best < 0 || carried < bestCarried) {
                    best = i;
                    bestCarried = carried;
                }
            }
            return best;
        }

        private int leastBy(byte[] least, int some, int first, int next) {
            int rest = some & ~(1 << first);
            int carried = book.pieces[members[first]].carriedTo(book.pieces[members[next]]);
            return carried + least[rest * MOST_ORDERED + next];
        }

        private void readOrder(byte[] least) {
            int some = (1 << size) - 1;
            int first = 0;
            for (int i = 1; i < size; i++) {
                if (least[some * MOST_ORDERED + i] < least[some * MOST_ORDERED + first]) {
                    first = i;
                }
            }
            fewestCarried = least[some * MOST_ORDERED + first];
            for (int place = 0; place < size && first >= 0; place++) {
                order[place] = members[first];
                int next = nextOf(least, some, first);
                some &= ~(1 << first);
                first = next;
            }
        }

        /** TWO EVENINGS: the first one; -1 if it can't be. */
        int firstEvening(int minutes) {
            int all = (1 << book.pieceCount) - 1;
            int best = -1;
            int leastApart = 0;
            for (int first = 0; first <= all; first++) {
                int minutesApart = 0;
                int minutesInAll = 0;
                int loudApart = 0;
                for (int i = 0; i < book.pieceCount; i++) {
                    Piece piece = book.pieces[i];
                    int side = isIn(first, i) ? 1 : -1;
                    minutesInAll += piece.minutes;
                    minutesApart += side * piece.minutes;
                    loudApart += side * piece.loud;
                }
                int longer = (minutesInAll + Math.abs(minutesApart)) / 2;
                int apart = Math.abs(loudApart);
                if (longer <= minutes && (best < 0 || apart < leastApart)) {
                    best = first;
                    leastApart = apart;
                }
            }
            return best;
        }
    }

    /** VOICES of LIKINGS, and THE TRACE of the latest one. */
    private static final class Voices {
        private static final int MOST_DEEP = 40;
        /** BODIES by KIND, then act; 0 where a KIND has none of its own. */
        private static final int[] BODIES = {
            10, 11, 12, 13,
            0, 20, 0, 21,
            30, 0, 0, 0,
            0, 0, 40, 0,
            50, 0, 51, 0,
            60, 0, 61, 62,
            0, 70, 0, 0,
        };

        final int[] bodies = new int[MOST_TRACED];
        int bodyCount;
        boolean parted;
        private int kind;
        private int up;
        private int down;
        private int own;

        int speak(Liking liking, int number, int act, int x) {
            kind = liking.kind;
            up = liking.up;
            down = liking.down;
            own = number;
            bodyCount = 0;
            parted = false;
            return spoken(kind, act, x, 0);
        }

        /** The BODY of an act that a KIND, or the next one above it, has. Behind a PARTED nothing more begins. */
        private int spoken(int from, int act, int x, int depth) {
            if (parted || depth > MOST_DEEP || !within(act, SAYS, PARTS)) {
                return 0;
            }
            int body = 0;
            int at = from;
            for (int i = 0; i < KIND_ABOVE.length && body == 0 && within(at, LIKING, BOUND); i++) {
                body = BODIES[at * ACTS + act];
                at = KIND_ABOVE[at];
            }
            if (bodyCount < MOST_TRACED) {
                bodies[bodyCount] = body;
                bodyCount++;
            }
            return bodyOf(body, x, depth + 1);
        }

        private int bodyOf(int body, int x, int depth) {
            switch (body) {
                case 10: return x + up;
                case 11: return spoken(kind, SAYS, x, depth) * 2;
                case 12: return spoken(kind, HEARS, x, depth) - own;
                case 13: return partedBy(x, down - own);
                case 20: return spoken(LIKING, HEARS, x, depth) + down;
                case 21: return spoken(LIKING, PARTS, x, depth) + spoken(kind, ASKS, 1, depth);
                case 30: return spoken(LIKING, SAYS, x, depth) / 2;
                case 40: return spoken(LIKING, ASKS, x + 1, depth);
                case 50: return 0 - spoken(LIKING, SAYS, x, depth);
                case 51: return spoken(LIKING, ASKS, x, depth) ^ own;
                case 60: return spoken(NEXT, SAYS, x, depth) * 3;
                case 61: return spoken(NEXT, ASKS, x, depth) - spoken(kind, SAYS, 2, depth);
                case 62: return spoken(kind, HEARS, x, depth) - spoken(NEXT, PARTS, x, depth);
                case 70: return spoken(LIKING, HEARS, x - 1, depth);
                default: return 0;
            }
        }

        private int partedBy(int x, int by) {
            if (by == 0) {
                parted = true;
                return 0;
            }
            return x / by;
        }
    }
}
