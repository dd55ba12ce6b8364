import java.io.IOException;
import java.lang.reflect.Method;
import java.lang.reflect.Modifier;
import java.net.URL;
import java.net.URLClassLoader;
import java.nio.file.Files;
import java.nio.file.Path;
import java.util.ArrayList;
import java.util.Comparator;
import java.util.List;
import java.util.Set;
import java.util.TreeSet;
import java.util.regex.Matcher;
import java.util.regex.Pattern;
import java.util.stream.Stream;
import javax.tools.ToolProvider;

/** README.md: its Java answers as it says, its commands run, and its way of running the tests runs all of them. */
public final class ReadmeTest {
    private static final Path README = Path.of("README.md");
    private static final Path OWN = Path.of("src/test/java");
    private static final Path SHARED = Path.of("../shared/tests");
    /** A call as a statement of its own, and the answer behind it. */
    private static final Pattern CALL = Pattern.compile("(?:(int \\w+) = )?(house\\.\\w+\\(.*\\));(?: *// (-?\\d+|true|false)(?::.*)?)?");
    private static int wrong = 0;
    private static int calls = 0;

    private ReadmeTest() { }

    public static void main(String[] args) throws Exception {
        String page = Files.readString(README);
        Path out = Files.createTempDirectory("readme");
        try {
            runUse(blocks(page, "java"), out);
            runCommands(blocks(page, "sh"), out);
        } finally {
            remove(out);
        }
        showsEachCall(blocks(page, "java"));
        namesEachTest(page);
        runsEachTest();
        System.out.println(wrong == 0 ? calls + " calls answer as README.md says" : wrong + " faults of README.md");
        if (wrong != 0) System.exit(1);
    }

    /** Public, since the class made of README.md calls it. */
    public static void due(String call, Object got, String want) {
        calls++;
        must(String.valueOf(got).equals(want), call + " answers " + want + ", not " + got);
    }

    private static void must(boolean holds, String what) {
        if (!holds) {
            wrong++;
            System.out.println("not so: " + what);
        }
    }

    private static List<String> blocks(String page, String language) {
        List<String> found = new ArrayList<>();
        Matcher m = Pattern.compile("(?ms)^```" + language + "\n(.*?)^```$").matcher(page);
        while (m.find()) found.add(m.group(1));
        return found;
    }

    // ---- its Java

    private static void runUse(List<String> blocks, Path out) throws Exception {
        StringBuilder methods = new StringBuilder(), run = new StringBuilder();
        for (String block : blocks) {
            if (block.startsWith("static ")) methods.append(block);
            else for (String line : block.split("\n")) run.append(compared(line)).append('\n');
        }
        Path file = out.resolve("ReadmeUse.java");
        Files.writeString(file, "public final class ReadmeUse {\n" + methods + "public static void run() {\n" + run + "}\n}\n");
        String path = System.getProperty("java.class.path");
        int answer = ToolProvider.getSystemJavaCompiler().run(null, null, null, "-cp", path, "-d", out.toString(), file.toString());
        must(answer == 0, "its Java compiles");
        if (answer != 0) return;
        try (URLClassLoader loader = new URLClassLoader(new URL[] {out.toUri().toURL()})) {
            loader.loadClass("ReadmeUse").getMethod("run").invoke(null);
        }
    }

    /** The line, and behind it that the answer is the one it says; a call without one is told. */
    private static String compared(String line) {
        Matcher m = CALL.matcher(line);
        if (!m.matches()) {
            must(!line.contains("house."), "this is a call with its answer: " + line);
            return line;
        }
        must(m.group(3) != null, "this call has its answer: " + line);
        String name = m.group(1) == null ? null : m.group(1).substring(4);
        String call = "ReadmeTest.due(\"" + m.group(2).replace("\"", "\\\"") + "\", " + (name == null ? m.group(2) : name) + ", \"" + m.group(3) + "\");";
        return name == null ? call : m.group(1) + " = " + m.group(2) + "; " + call;
    }

    private static void showsEachCall(List<String> blocks) {
        String all = String.join("", blocks);
        for (Method m : HouseClearedUp.class.getDeclaredMethods()) {
            if (Modifier.isPublic(m.getModifiers())) must(all.contains("house." + m.getName() + "("), m.getName() + " is shown");
        }
    }

    // ---- its commands

    private static void runCommands(List<String> blocks, Path out) throws Exception {
        must(!blocks.isEmpty(), "there are commands");
        for (String block : blocks) {
            for (String line : block.split("\n")) {
                String command = line.replaceAll("(-d|-cp) out\\b", "$1 " + out);
                must(run(new ArrayList<>(), "sh", "-c", command) == 0, "this command ends well: " + line);
            }
        }
    }

    private static int run(List<String> lines, String... command) throws IOException, InterruptedException {
        Process p = new ProcessBuilder(command).redirectErrorStream(true).start();
        for (String line : new String(p.getInputStream().readAllBytes()).split("\n")) lines.add(line);
        return p.waitFor();
    }

    // ---- its tests

    private static void namesEachTest(String page) throws IOException {
        Set<String> named = new TreeSet<>();
        Matcher m = Pattern.compile("`(\\w+Test)`").matcher(page);
        while (m.find()) named.add(m.group(1) + ".java");
        Set<String> there = new TreeSet<>();
        for (Path test : programsIn(OWN)) there.add(test.getFileName().toString());
        must(named.equals(there), "the tests it names are those that there are: " + named + " / " + there);
    }

    /** What .ci/run runs is each file that can be run, there and under ../shared/tests. */
    private static void runsEachTest() throws Exception {
        List<String> listed = new ArrayList<>();
        must(run(listed, ".ci/run", "list") == 0, ".ci/run list ends well");
        Set<String> due = new TreeSet<>();
        for (Path folder : new Path[] {SHARED, OWN}) for (Path test : programsIn(folder)) due.add(test.toString());
        must(new TreeSet<>(listed).equals(due), ".ci/run runs all tests: " + listed + " / " + due);
    }

    private static List<Path> programsIn(Path folder) throws IOException {
        List<Path> found = new ArrayList<>();
        try (Stream<Path> files = Files.list(folder)) {
            for (Path file : (Iterable<Path>) files::iterator) {
                if (file.toString().endsWith(".java") && Files.readString(file).contains("static void main(")) found.add(file);
            }
        }
        return found;
    }

    private static void remove(Path folder) throws IOException {
        try (Stream<Path> files = Files.walk(folder)) {
            for (Path file : (Iterable<Path>) files.sorted(Comparator.reverseOrder())::iterator) Files.delete(file);
        }
    }
}
