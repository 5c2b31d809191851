import java.lang.reflect.Method;
import java.lang.reflect.Modifier;
import java.net.URL;
import java.net.URLClassLoader;
import java.nio.file.Files;
import java.nio.file.Path;
import java.util.ArrayList;
import java.util.List;
import java.util.regex.Matcher;
import java.util.regex.Pattern;
import java.util.stream.Stream;
import javax.tools.ToolProvider;

/**
 * The examples of README.md, compiled and run: behind -> stands what a call answers, in quotation marks what the
 * output is then, or what the call throws. Every call must have a row in the table of the calls and an example.
 */
public final class ReadmeTest {
    private static final Pattern CHECKED =
        Pattern.compile("(forge\\..*\\));\\s+// -> ([^\\s\":]+)(?: \"([^\"]*)\")?(?:: .*)?");

    private static int wrong = 0;

    public static void main(String[] args) throws Exception {
        List<String> lines = Files.readAllLines(Path.of("README.md"));
        List<List<String>> blocks = blocks(lines);
        callsAreShown(lines, blocks);
        examplesHold(blocks);
        System.out.println("README: " + (wrong == 0 ? "all examples hold" : wrong + " wrong"));
        if (wrong != 0) {
            System.exit(1);
        }
    }

    /** The examples call this with each answer that they told. */
    public static void due(String line, String got, String want) {
        if (!got.equals(want)) {
            wrong++;
            System.out.println("README: " + line.trim() + " is " + got);
        }
    }

    private static void say(boolean held, String what) {
        if (!held) {
            wrong++;
            System.out.println("README: " + what);
        }
    }

    private static List<List<String>> blocks(List<String> lines) {
        List<List<String>> blocks = new ArrayList<>();
        boolean inside = false;
        for (String line : lines) {
            if (line.equals("```java")) {
                inside = true;
                blocks.add(new ArrayList<>());
            } else if (line.equals("```")) {
                inside = false;
            } else if (inside) {
                blocks.get(blocks.size() - 1).add(line);
            }
        }
        return blocks;
    }

    private static void callsAreShown(List<String> lines, List<List<String>> blocks) {
        for (Method m : NumberForge.class.getDeclaredMethods()) {
            if (Modifier.isPublic(m.getModifiers())) {
                String row = "| `" + m.getName() + "(";
                say(lines.stream().anyMatch(line -> line.startsWith(row)), "no row for " + m.getName());
                Stream<String> calls = blocks.stream().flatMap(List::stream)
                    .filter(line -> line.startsWith("forge." + m.getName() + "("));
                boolean answers = m.getReturnType() != void.class;
                say(calls.anyMatch(line -> !answers || CHECKED.matcher(line).matches()), "no example of " + m.getName());
            }
        }
    }

    private static void examplesHold(List<List<String>> blocks) throws Exception {
        Path folder = Files.createTempDirectory("readme");
        Path source = folder.resolve("ReadmeExamples.java");
        try {
            Files.write(source, program(blocks));
            String classes = System.getProperty("java.class.path");
            int failed = ToolProvider.getSystemJavaCompiler()
                .run(null, null, null, "-cp", classes, "-d", folder.toString(), source.toString());
            say(failed == 0, "the examples do not compile");
            if (failed == 0) {
                run(folder);
            }
        } finally {
            for (String file : new String[] {"ReadmeExamples.java", "ReadmeExamples.class", ""}) {
                Files.deleteIfExists(folder.resolve(file));
            }
        }
    }

    private static void run(Path folder) throws Exception {
        try (URLClassLoader loader = new URLClassLoader(new URL[] {folder.toUri().toURL()})) {
            loader.loadClass("ReadmeExamples").getMethod("all").invoke(null);
        }
    }

    // ---- The examples as a program

    private static List<String> program(List<List<String>> blocks) {
        List<String> program = new ArrayList<>(List.of("public final class ReadmeExamples {"));
        List<String> all = new ArrayList<>(List.of("public static void all() {"));
        for (List<String> block : blocks) {
            if (block.get(0).startsWith("static ")) {
                program.addAll(block);
                continue;
            }
            all.add("example" + all.size() + "();");
            program.add("private static void example" + (all.size() - 1) + "() {");
            for (String line : block) {
                program.add(statement(line));
            }
            program.add("}");
        }
        program.addAll(all);
        program.addAll(List.of("}", "}"));
        return program;
    }

    private static String statement(String line) {
        Matcher m = CHECKED.matcher(line);
        if (!m.matches()) {
            say(!line.contains("->"), "an answer that can't be checked: " + line);
            return line;
        }
        String due = "ReadmeTest.due(" + quoted(line) + ", ";
        String want = ", " + quoted(m.group(2)) + ");";
        if (m.group(2).endsWith("Exception")) {
            return "try { " + m.group(1) + "; " + due + "\"nothing thrown\"" + want + " } catch (RuntimeException e) { "
                + due + "e.getClass().getSimpleName()" + want + " }";
        }
        String answer = due + "\"\" + " + m.group(1) + want;
        return m.group(3) == null ? answer : answer + " " + due + "output(forge), " + quoted(m.group(3)) + ");";
    }

    private static String quoted(String s) {
        return "\"" + s.replace("\\", "\\\\").replace("\"", "\\\"") + "\"";
    }
}
