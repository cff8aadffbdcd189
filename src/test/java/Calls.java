/** Calls of EveningOrder by their names; a false or true stands as 0 or 1. */
final class Calls {
    private Calls() { }

    static final String[] NAMES = {
        "piece", "pieceIs", "rule", "liking", "turn", "as", "must", "feed", "text", "worth", "worthBy", "tired",
        "judge", "begins", "best", "most", "equals", "bars", "fewest", "better", "slides", "ill", "two", "past",
        "plain", "voice", "trace", "sheet", "put", "get", "move", "image", "restore", "tell", "check", "count", "told",
    };

    static long call(EveningOrder x, String name, long... l) {
        int[] a = new int[5];
        for (int i = 0; i < l.length; i++) {
            a[i] = (int) l[i];
        }
        switch (name) {
            case "piece": return x.piece(a[0], a[1], a[2], a[3]);
            case "pieceIs": return x.pieceIs(a[0], a[1]);
            case "rule": return x.rule(a[0], a[1]);
            case "liking": return x.liking(a[0], a[1], a[2]);
            case "turn": return x.turn(a[0], a[1] != 0);
            case "as": return x.as(a[0], a[1]);
            case "must": return x.must(a[0], a[1], a[2]);
            case "feed": return x.feed(l[0], a[1]);
            case "text": return x.text(a[0]);
            case "worth": return x.worth(a[0], a[1], a[2]);
            case "worthBy": return x.worthBy(a[0], a[1], a[2]);
            case "tired": return x.tired(a[0], a[1], a[2], a[3]);
            case "judge": return x.judge(a[0], a[1], a[2]);
            case "begins": return x.begins(a[0], a[1], a[2]);
            case "best": return x.best(a[0], a[1]);
            case "most": return x.most(a[0], a[1]);
            case "equals": return x.equals(a[0], a[1]);
            case "bars": return x.bars(a[0]);
            case "fewest": return x.fewest(a[0], a[1]);
            case "better": return x.better(a[0], a[1]);
            case "slides": return x.slides(a[0], a[1], a[2]);
            case "ill": return x.ill(a[0], a[1], a[2], a[3]);
            case "two": return x.two(a[0]);
            case "past": return x.past(a[0], a[1], a[2]);
            case "plain": return x.plain(a[0]);
            case "voice": return x.voice(a[0], a[1], a[2]);
            case "trace": return x.trace(a[0]);
            case "sheet": return x.sheet(a[0], a[1], a[2]);
            case "put": return x.put(a[0], a[1], a[2]);
            case "get": return x.get(a[0], a[1]);
            case "move": return x.move(a[0], a[1], a[2], a[3], a[4]);
            case "image": return x.image();
            case "restore": return x.restore();
            case "tell": return x.tell(a[0]);
            case "check": return x.check(a[0]);
            case "count": return x.count(a[0]);
            case "told": return x.told(a[0]);
            default: throw new IllegalStateException(name);
        }
    }
}
