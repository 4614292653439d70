import java.io.IOException;
import java.lang.reflect.Method;
import java.lang.reflect.Modifier;
import java.net.URL;
import java.net.URLClassLoader;
import java.nio.file.Files;
import java.nio.file.Path;
import java.util.ArrayList;
import java.util.Comparator;
import java.util.List;
import java.util.Set;
import java.util.TreeSet;
import java.util.regex.Matcher;
import java.util.regex.Pattern;
import java.util.stream.Stream;

/** README.md: the code it shows is compiled as it stands, and each call of it answers what stands behind its arrow. */
public final class ReadmeTest {
    private static final String NEW_OBJECT = "CrowdSketches sketch = new CrowdSketches();";
    private static final Pattern SHOWN_CALL = Pattern.compile("(.*);\\s*// -> (throws )?(.*)");

    public static void main(String[] args) throws Exception {
        String page = Files.readString(Path.of("README.md"));
        runShownCalls(blocks(page, "java"));
        showsEachMethod(String.join("\n", blocks(page, "java")));
        Checks.same("the command for the tests", blocks(page, "sh"), List.of(".ci/run"));
        Checks.same("the command can be run", Files.isExecutable(Path.of(".ci/run")), true);
        Checks.same("the table of tests", tableOfTests(page), testsThere());
        Checks.end();
    }

    private static List<String> blocks(String page, String language) {
        List<String> blocks = new ArrayList<>();
        Matcher block = Pattern.compile("```" + language + "\n(.*?)\n```", Pattern.DOTALL).matcher(page);
        while (block.find()) {
            blocks.add(block.group(1));
        }
        return blocks;
    }

    private static void runShownCalls(List<String> blocks) throws Exception {
        StringBuilder code = new StringBuilder("public final class ReadmeCalls {\n");
        StringBuilder main = new StringBuilder("public static void run(java.util.List<Object[]> answers) {\n");
        main.append("Object got;\n");
        for (String block : blocks) {
            if (block.startsWith("static ")) {
                code.append(block).append('\n');
            } else {
                main.append("{\n").append(answeredCalls(block)).append("}\n");
            }
        }
        code.append(main).append("}\n}\n");
        compileAndRun(code.toString());
    }

    /** The calls as they stand, each of which puts down itself, its answer, and the answer that the page names. */
    private static String answeredCalls(String block) {
        Checks.same("a block begins with a new object", block.lines().findFirst().orElse(""), NEW_OBJECT);
        StringBuilder code = new StringBuilder(NEW_OBJECT + "\n");
        for (String line : block.lines().skip(1).toList()) {
            Matcher shown = SHOWN_CALL.matcher(line);
            Checks.same("README.md names an answer in " + line, shown.matches(), true);
            if (shown.matches()) {
                String call = shown.group(1);
                String due = shown.group(2) == null ? shown.group(3) : quoted(shown.group(3));
                code.append("try { got = ").append(call).append("; } ");
                code.append("catch (RuntimeException e) { got = e.getClass().getSimpleName(); }\n");
                code.append("answers.add(new Object[] {").append(quoted(call)).append(", got, ").append(due);
                code.append("});\n");
            }
        }
        return code.toString();
    }

    private static String quoted(String text) {
        return "\"" + text.replace("\\", "\\\\").replace("\"", "\\\"") + "\"";
    }

    private static void compileAndRun(String code) throws Exception {
        Path folder = Files.createTempDirectory("readme");
        try {
            Path file = Files.writeString(folder.resolve("ReadmeCalls.java"), code);
            int result = new ProcessBuilder("javac", "-encoding", "UTF-8",
                    "-cp", System.getProperty("java.class.path"), "-d", folder.toString(), file.toString())
                    .inheritIO().start().waitFor();
            Checks.same("the code in README.md is compiled with", result, 0);
            if (result == 0) {
                runIn(folder);
            }
        } finally {
            deleteAll(folder);
        }
    }

    private static void runIn(Path folder) throws Exception {
        URL[] places = {folder.toUri().toURL()};
        try (URLClassLoader loader = new URLClassLoader(places, ReadmeTest.class.getClassLoader())) {
            List<Object[]> answers = new ArrayList<>();
            loader.loadClass("ReadmeCalls").getMethod("run", List.class).invoke(null, answers);
            for (Object[] answer : answers) {
                Checks.same("README.md: " + answer[0], answer[1], answer[2]);
            }
        }
    }

    private static void deleteAll(Path folder) throws IOException {
        try (Stream<Path> paths = Files.walk(folder)) {
            for (Path path : paths.sorted(Comparator.reverseOrder()).toList()) {
                Files.delete(path);
            }
        }
    }

    private static void showsEachMethod(String code) {
        for (Method method : CrowdSketches.class.getDeclaredMethods()) {
            if (Modifier.isPublic(method.getModifiers())) {
                String call = "sketch." + method.getName() + "(";
                Checks.same("README.md shows " + call, code.contains(call), true);
            }
        }
    }

    private static Set<String> tableOfTests(String page) {
        Set<String> names = new TreeSet<>();
        Matcher row = Pattern.compile("^\\| (\\w+Test) \\|", Pattern.MULTILINE).matcher(page);
        while (row.find()) {
            names.add(row.group(1));
        }
        return names;
    }

    private static Set<String> testsThere() throws IOException {
        Set<String> names = new TreeSet<>();
        try (Stream<Path> files = Files.list(Path.of("src/test/java"))) {
            for (Path file : files.toList()) {
                String name = file.getFileName().toString();
                if (name.endsWith("Test.java")) {
                    names.add(name.substring(0, name.length() - ".java".length()));
                }
            }
        }
        return names;
    }
}
