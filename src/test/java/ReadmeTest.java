import java.io.IOException;
import java.nio.file.Files;
import java.nio.file.Path;
import java.util.ArrayList;
import java.util.List;

/** What README.md shows holds: its example answers what it says there, and no call is left out. */
public final class ReadmeTest {
    private static int wrong = 0;

    public static void main(String[] args) throws IOException {
        List<String> readme = Files.readAllLines(Path.of("README.md"));
        example();
        standsHere(linesOfExample(readme), Files.readAllLines(Path.of("src/test/java/ReadmeTest.java")));
        for (String name : Calls.NAMES) {
            need(readme.stream().anyMatch(line -> line.contains("`" + name + "`")), "README.md doesn't name " + name);
        }
        System.out.println("README.md, " + wrong + " wrong");
        if (wrong != 0) {
            System.exit(1);
        }
    }

    private static void need(boolean holds, String otherwise) {
        if (!holds) {
            wrong++;
            System.out.println(otherwise);
        }
    }

    private static void due(String what, long got, long want) {
        need(got == want, "README.md's " + what + " is " + got + ", due is " + want);
    }

    /** The example's lines, as README.md has them, with nothing between. */
    private static void example() {
        EveningOrder evening = new EveningOrder();
        int waltz = evening.piece(12035, 3, 5, 10);
        int march = evening.piece(8039, 1, 1, 20);
        int louder = evening.liking(1, 1, 2);
        int bytes = evening.feed(0x612D62, 3);
        int signs = evening.text(louder);
        int must = evening.must(3, 100 * march + waltz, 0);
        evening.sheet(0, 8, 2);
        evening.put(0, 0, march);
        evening.put(0, 1, waltz);
        long above = evening.worth(0, 0, 0);
        long below = evening.worth(0, 0, 1);
        int broken = evening.judge(0, 0, 3);
        int change = evening.better(0, 0);
        int first = evening.best(3, 0);
        long most = evening.most(3, 0);
        int beyond = evening.best(4, 0);
        int often = evening.told(1);
        due("waltz", waltz, 0);
        due("march", march, 1);
        due("bytes", bytes, 3);
        due("signs", signs, 1);
        due("must", must, 0);
        due("above", above, -2);
        due("below", below, 1);
        due("broken", broken, 1);
        due("change", change, 1);
        due("first", first, waltz);
        due("most", most, 2);
        due("most's other part", evening.most(3, 1), 1);
        due("beyond", beyond, -1000001);
        due("often", often, 1);
    }

    private static List<String> linesOfExample(List<String> readme) {
        List<String> lines = new ArrayList<>();
        boolean within = false;
        for (String line : readme) {
            if (line.startsWith("```")) {
                within = line.equals("```java");
                continue;
            }
            String code = line.replaceAll("//.*", "").strip();
            if (within && !code.isEmpty()) {
                lines.add(code);
            }
        }
        return lines;
    }

    private static void standsHere(List<String> lines, List<String> here) {
        need(!lines.isEmpty(), "README.md has no example");
        int at = 0;
        while (at < here.size() && !lines.isEmpty() && !here.get(at).strip().equals(lines.get(0))) {
            at++;
        }
        for (String line : lines) {
            String next = at < here.size() ? here.get(at).strip() : "nothing";
            need(next.equals(line), "README.md has " + line + " where the test has " + next);
            at++;
        }
    }
}
