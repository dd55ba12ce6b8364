import java.lang.reflect.Field;
import java.lang.reflect.Method;
import java.lang.reflect.Modifier;
import java.nio.charset.StandardCharsets;
import java.nio.file.Files;
import java.nio.file.Path;
import java.util.ArrayList;
import java.util.Arrays;
import java.util.List;
import java.util.Set;
import java.util.TreeSet;
import java.util.regex.Matcher;
import java.util.regex.Pattern;

/** What of LANGUAGE.md can be seen from outside: the face, words that may not stand, sizes, and the room that a run takes. */
public final class LanguageTest {
    private static final Path SOURCE = Path.of("src/main/java/HouseClearedUp.java");
    private static final Path DOC = Path.of("../shared/DOC.md");
    private static int wrong = 0;

    private static void must(boolean holds, String what) {
        if (!holds) {
            wrong++;
            System.out.println("not so: " + what);
        }
    }

    public static void main(String[] args) throws Exception {
        String source = Files.readString(SOURCE, StandardCharsets.ISO_8859_1);
        face();
        words(source);
        sizes(source);
        room();
        System.out.println(wrong == 0 ? "the language is kept" : wrong + " rules are broken");
        if (wrong != 0) System.exit(1);
    }

    private static void face() throws Exception {
        Set<String> due = new TreeSet<>();
        if (Files.exists(DOC)) {
            Matcher m = Pattern.compile("\n    public (int|long|boolean) (\\w+)\\((.*?)\\);").matcher(Files.readString(DOC));
            while (m.find()) due.add(m.group(1) + " " + m.group(2) + " " + m.group(3).replaceAll(" \\w+(,|$)", "$1").replace(" ", ""));
        }
        Set<String> got = new TreeSet<>();
        Set<String> names = new TreeSet<>();
        for (Method m : HouseClearedUp.class.getDeclaredMethods()) {
            if (Modifier.isPrivate(m.getModifiers())) continue;
            must(Modifier.isPublic(m.getModifiers()), m + " is public or private");
            StringBuilder types = new StringBuilder();
            for (Class<?> c : m.getParameterTypes()) types.append(types.length() == 0 ? "" : ",").append(c.getName());
            got.add(m.getReturnType().getName() + " " + m.getName() + " " + types);
            names.add(m.getName());
        }
        must(due.isEmpty() || due.equals(got), "the face is the document's: " + due + " / " + got);
        List<Class<?>> classes = new ArrayList<>(Arrays.asList(HouseClearedUp.class.getDeclaredClasses()));
        classes.add(HouseClearedUp.class);
        must(classes.size() <= 12, "twelve classes at most");
        for (Class<?> c : classes) {
            must(c == HouseClearedUp.class || Modifier.isStatic(c.getModifiers()) && !Modifier.isPublic(c.getModifiers()), c + " is static and not public");
            int fields = 0;
            for (Field f : c.getDeclaredFields()) {
                if (Modifier.isStatic(f.getModifiers())) must(Modifier.isFinal(f.getModifiers()), f + " is final");
                else fields++;
                must(c != HouseClearedUp.class || f.getName().equals("NONE") || Modifier.isPrivate(f.getModifiers()), f + " is private");
            }
            must(fields <= 20, c + " has twenty fields at most");
            for (Method m : c.getDeclaredMethods()) {
                must(m.getParameterCount() <= 7, m + " takes seven at most");
                must(!names.contains(m.getName()) || c == HouseClearedUp.class && Modifier.isPublic(m.getModifiers()), m + " bears no public name");
            }
        }
    }

    private static void words(String source) {
        for (char c : source.toCharArray()) must(c == 10 || c >= 32 && c < 127, "plain signs alone, not " + (int) c);
        String bare = source.replaceAll("/\\*(?s:.*?)\\*/|//.*", "").replaceAll("\"[^\"]*\"", "\"\"");
        for (String word : new String[] {"throw", "throws", "try", "catch", "synchronized", "assert", "volatile", "transient", "native",
            "Exact", "Object", "Random", "Thread", "System\\.(?!arraycopy)\\w+", "->", "::", "@\\w+", "package", "protected", "var"}) {
            must(!Pattern.compile(word.matches("\\w+") ? "\\b" + word + "\\b" : word).matcher(bare).find(), "no " + word);
        }
        must(!Pattern.compile("\"\"\\s*\\+|\\+\\s*\"\"").matcher(bare).find(), "no texts joined by +");
        Matcher m = Pattern.compile("import (.*?);").matcher(bare);
        while (m.find()) must(m.group(1).equals("java.util.Arrays"), "no import of " + m.group(1));
    }

    private static void sizes(String source) {
        String[] lines = source.split("\n");
        for (int i = 0; i < lines.length; i++) {
            Matcher m = Pattern.compile("^( {4}| {8})(?!.*\\bclass\\b)\\S.*\\) \\{$").matcher(lines[i]);
            if (!m.find()) continue;
            int end = i;
            while (end < lines.length && !lines[end].equals(m.group(1) + "}")) end++;
            must(end - i <= 60, "short: " + lines[i].trim());
        }
    }

    /** The dearest runs: 512 calls stay far below the room's 7.3 million elements. */
    private static void room() {
        com.sun.management.ThreadMXBean bean = (com.sun.management.ThreadMXBean) java.lang.management.ManagementFactory.getThreadMXBean();
        long me = Thread.currentThread().getId();
        long best = Long.MAX_VALUE;
        for (int time = 0; time < 5; time++) {
            long before = bean.getThreadAllocatedBytes(me);
            HouseClearedUp x = new HouseClearedUp();
            // "bids 1+1+1+1+1+1;": each text that is read makes its rows anew
            for (int i = 0; i < 128; i++) {
                x.feed(0x62696473, 0x20312b31, 0x2b312b31, 0x2b312b31, 0x3b202020);
                must(x.text() == 0, "the text is sound");
                x.week(60);
                x.back();
            }
            best = Math.min(best, bean.getThreadAllocatedBytes(me) - before);
        }
        must(best < 2000000, "a run takes less than two million bytes: " + best);
    }
}
