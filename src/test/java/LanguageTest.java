import java.io.IOException;
import java.lang.management.ManagementFactory;
import java.lang.reflect.Constructor;
import java.lang.reflect.Field;
import java.lang.reflect.Method;
import java.lang.reflect.Modifier;
import java.nio.file.Files;
import java.nio.file.Path;
import java.util.ArrayList;
import java.util.Arrays;
import java.util.HashSet;
import java.util.List;
import java.util.Set;
import java.util.TreeSet;
import java.util.regex.Matcher;
import java.util.regex.Pattern;

/** What can be seen of LANGUAGE.md from the source, the compiled classes, and what calls make on the heap. */
public final class LanguageTest {
    private static int wrong = 0;

    public static void main(String[] args) throws IOException {
        String source = Files.readString(Path.of("src/main/java/EveningOrder.java"));
        String code = bare(source);
        theFace();
        classesInside();
        words(code);
        libraryCalls(code);
        methodsAreShort(code);
        callsMakeLittle();
        System.out.println("rules of the language, " + wrong + " broken");
        if (wrong != 0) {
            System.exit(1);
        }
    }

    private static void need(boolean holds, String otherwise) {
        if (!holds) {
            wrong++;
            System.out.println(otherwise);
        }
    }

    /** Without comments and texts. */
    private static String bare(String source) {
        String code = source.replaceAll("(?s)/\\*.*?\\*/", "").replaceAll("//[^\n]*", "");
        return code.replaceAll("\"[^\"\n]*\"", "\"\"").replaceAll("'[^'\n]'", "'x'");
    }

    private static void theFace() {
        Class<?> c = EveningOrder.class;
        need(Modifier.isPublic(c.getModifiers()) && Modifier.isFinal(c.getModifiers()), "rule 1: not public and final");
        Set<String> seen = new TreeSet<>();
        Set<String> hidden = new HashSet<>();
        for (Method m : c.getDeclaredMethods()) {
            if (Modifier.isPublic(m.getModifiers())) {
                seen.add(m.getName());
            } else {
                need(Modifier.isPrivate(m.getModifiers()), "rule 1: " + m + " is neither public nor private");
                hidden.add(m.getName());
            }
        }
        need(seen.equals(new TreeSet<>(Arrays.asList(Calls.NAMES))), "rule 1: the face is " + seen);
        for (Class<?> inside : c.getDeclaredClasses()) {
            for (Method m : inside.getDeclaredMethods()) {
                hidden.add(m.getName());
            }
        }
        hidden.retainAll(seen);
        need(hidden.isEmpty(), "rule 1: these names are public ones, too: " + hidden);
        for (Field f : c.getDeclaredFields()) {
            need(Modifier.isPrivate(f.getModifiers()), "rule 1: " + f + " isn't private");
        }
        for (Constructor<?> k : c.getDeclaredConstructors()) {
            need(Modifier.isPublic(k.getModifiers()) && k.getParameterCount() == 0, "rule 1: " + k);
        }
    }

    private static void classesInside() {
        List<Class<?>> all = new ArrayList<>(List.of(EveningOrder.class));
        all.addAll(Arrays.asList(EveningOrder.class.getDeclaredClasses()));
        need(all.size() <= 12, "rule 11: " + all.size() + " classes");
        for (Class<?> c : all) {
            if (c != EveningOrder.class) {
                need(Modifier.isStatic(c.getModifiers()), "rule 2: " + c + " isn't static");
            }
            int fields = 0;
            for (Field f : c.getDeclaredFields()) {
                if (Modifier.isStatic(f.getModifiers())) {
                    need(Modifier.isFinal(f.getModifiers()), "rule 5: " + f + " isn't final");
                } else {
                    fields++;
                }
            }
            need(fields <= 20, "rule 11: " + c + " has " + fields + " fields");
            for (Method m : c.getDeclaredMethods()) {
                need(m.getParameterCount() <= 7, "rule 11: " + m + " takes too much");
                need(!m.isSynthetic(), "rule 2: " + m + " comes of a lambda or an inner class");
            }
        }
    }

    private static void words(String code) {
        String[] never = {"throw", "throws", "try", "catch", "finally", "synchronized", "assert", "import", "package",
            "double", "float", "while", "Object", "hashCode", "toString", "Thread", "Random", "native"};
        for (String word : never) {
            need(!Pattern.compile("\\b" + word + "\\b").matcher(code).find(), "a word that isn't due: " + word);
        }
        need(!code.contains("->") && !code.contains("::"), "rule 2: a lambda or a method reference");
        need(!code.contains("static {"), "rule 5: a static initialiser");
        need(!Pattern.compile("\"\\s*\\+|\\+\\s*\"").matcher(code).find(), "rule 10: texts joined by +");
    }

    private static void libraryCalls(String code) {
        Set<String> allowed = Set.of("System.arraycopy", "Math.max", "Math.min", "Math.abs", "Integer.bitCount");
        Matcher m = Pattern.compile("\\b(System|Math|Integer|Long|Arrays|String|Character)\\.(\\w+)").matcher(code);
        while (m.find()) {
            need(allowed.contains(m.group()), "rule 4: " + m.group());
        }
    }

    private static void methodsAreShort(String code) {
        String[] lines = code.split("\n");
        int from = -1;
        int deep = 0;
        for (int i = 0; i < lines.length; i++) {
            String line = lines[i];
            int indent = line.length() - line.stripLeading().length();
            boolean begins = line.endsWith(") {") && !line.contains(" = ") && (indent == 4 || indent == 8)
                    && !line.strip().matches("(if|for|switch|else|\\}).*");
            if (from < 0 && begins) {
                from = i;
                deep = indent;
            } else if (from >= 0 && indent == deep && line.strip().equals("}")) {
                need(i - from < 60, "rule 11: " + (i - from + 1) + " lines: " + lines[from].strip());
                from = -1;
            }
        }
    }

    /** All calls of one run live in one room: 512 dear ones must make next to nothing. */
    private static void callsMakeLittle() {
        com.sun.management.ThreadMXBean heap = (com.sun.management.ThreadMXBean) ManagementFactory.getThreadMXBean();
        long self = Thread.currentThread().getId();
        dearRun();
        long before = heap.getThreadAllocatedBytes(self);
        dearRun();
        long bytes = heap.getThreadAllocatedBytes(self) - before;
        need(bytes < 100_000, "rule 12: a dear run makes " + bytes + " bytes");
    }

    private static void dearRun() {
        EveningOrder x = new EveningOrder();
        for (int i = 0; i < 12; i++) {
            x.piece(1000 * (1 + i) + 10 * (i % 3) + i % 10, 37 * i & 255, 91 * i & 255, 5 * i);
        }
        for (int i = 0; i < 10; i++) {
            x.liking(i % 7, i - 4, 1 + i % 9);
            x.feed(0x39392A39L, 4);
            x.text(i);
            x.must(i % 8, 100 * i + 11, 50);
        }
        x.sheet(0, 8, 7);
        for (int i = 0; i < 7; i++) {
            x.put(0, i, i);
        }
        for (int i = 0; i < 8; i++) {
            x.past(0, 0, i % 7);
        }
        for (int i = 0; i < 20; i++) {
            x.turn(i % 10, i % 2 == 0);
            x.best(63, 0);
            x.most(31, 0);
            x.equals(62, 0);
            x.bars(61);
            x.fewest(1023, 0);
            x.fewest(1022, 0);
            x.better(0, 3);
            x.slides(0, 3, 20);
            x.ill(0, 3, 3, 0);
            x.two(200);
            x.plain(0);
            x.image();
            x.restore();
            x.voice(5, 3, i);
            x.feed(0x3929L, 2);
            x.text(1);
            x.sheet(1, 32, 24);
        }
    }
}
