import java.io.IOException;
import java.lang.reflect.Method;
import java.lang.reflect.Modifier;
import java.net.URL;
import java.net.URLClassLoader;
import java.nio.file.Files;
import java.nio.file.Path;
import java.util.ArrayList;
import java.util.List;
import java.util.regex.Matcher;
import java.util.regex.Pattern;
import java.util.stream.Stream;
import javax.tools.JavaCompiler;
import javax.tools.ToolProvider;

/**
 * What README.md shows: its code is compiled as it stands there and run from top to bottom, and each
 * call must answer what is named behind it. So the page can't be changed without this test.
 */
public final class ReadmeTest {
    private static final String PAGE = "README.md";
    private static final String RUN = "ReadmeRun";
    private static final int MOST_CALLS = 512;
    private static final Pattern BLOCK = Pattern.compile("(?ms)^```java\n(.*?)^```$");
    private static final Pattern MAKING =
        Pattern.compile("KeptAnswers [a-z]+ = new KeptAnswers\\(\\);");
    /** A name that is given to the answer (or none), what is called, and the answer that is named. */
    private static final Pattern CALL = Pattern.compile(
        "(?:int ([a-z]+) = )?(.+);\\s+// (-?[0-9]+|NONE|VOID|throws [A-Za-z]+)(?:: .*)?");

    private final Checks check = new Checks("ReadmeTest");
    private final String page;
    private final StringBuilder members = new StringBuilder();
    private final List<String> lines = new ArrayList<>();
    private final List<String> calls = new ArrayList<>();
    private final List<String> named = new ArrayList<>();

    private ReadmeTest(String page) {
        this.page = page;
    }

    public static void main(String[] args) throws IOException, ReflectiveOperationException {
        ReadmeTest test = new ReadmeTest(Files.readString(Path.of(PAGE)));
        test.takeBlocks();
        test.holdAnswers();
        test.holdWords();
        test.check.end();
    }

    /** A block that begins with static is a function; all others together are one run of calls. */
    private void takeBlocks() {
        Matcher block = BLOCK.matcher(page);
        while (block.find()) {
            if (block.group(1).startsWith("static ")) {
                members.append(block.group(1));
            } else {
                lines.addAll(block.group(1).lines().toList());
            }
        }
        check.due("fences of " + PAGE, 2 * BLOCK.matcher(page).results().count(),
            Pattern.compile("(?m)^ *```").matcher(page).results().count());
    }

    private void holdAnswers() throws IOException, ReflectiveOperationException {
        String source = source();
        Path made = Files.createTempDirectory("readme");
        try {
            List<?> told = run(made, source);
            check.due("calls shown that were made", named.size(), told.size());
            for (int i = 0; i < named.size() && i < told.size(); i++) {
                check.due(calls.get(i) + " answered " + told.get(i) + ", " + PAGE + " names "
                    + named.get(i) + ": alike", 1, named.get(i).equals(told.get(i)) ? 1 : 0);
            }
        } finally {
            clear(made);
        }
    }

    /** A class with the page's code as it stands, and once more with each answer put on a list. */
    private String source() {
        StringBuilder telling = new StringBuilder();
        for (String line : lines) {
            Matcher call = CALL.matcher(line);
            if (MAKING.matcher(line).matches()) {
                telling.append(line).append('\n');
            } else if (call.matches()) {
                telling.append(telling(call.group(1), call.group(2)));
                calls.add(call.group(2));
                named.add(worth(call.group(3)));
            } else {
                check.due("a call with its answer is \"" + line + "\"", 1, line.isBlank() ? 1 : 0);
            }
        }
        return "public final class " + RUN + " {\n" + members
            + "static void asShown() {\n" + String.join("\n", lines) + "\n}\n"
            + "public static java.util.List<String> told() {\n"
            + "java.util.List<String> told = new java.util.ArrayList<>();\n" + telling
            + "return told;\n}\n}\n";
    }

    private static String telling(String name, String call) {
        if (name != null) {
            return "int " + name + " = " + call + "; told.add(\"\" + " + name + ");\n";
        }
        return "try { told.add(\"\" + " + call + "); } catch (RuntimeException e) {"
            + " told.add(\"throws \" + e.getClass().getSimpleName()); }\n";
    }

    private static String worth(String answer) {
        return answer.equals("NONE") ? "" + KeptAnswers.NONE
            : answer.equals("VOID") ? "" + KeptAnswers.VOID : answer;
    }

    private List<?> run(Path made, String source) throws IOException, ReflectiveOperationException {
        Path file = Files.writeString(made.resolve(RUN + ".java"), source);
        JavaCompiler compiler = ToolProvider.getSystemJavaCompiler();
        int failed = compiler == null ? 1 : compiler.run(null, null, null, "-d", made.toString(),
            "-cp", System.getProperty("java.class.path"), file.toString());
        check.due("compiling the code of " + PAGE, 0, failed);
        if (failed != 0) {
            return List.of();
        }
        try (URLClassLoader loader = new URLClassLoader(new URL[] {made.toUri().toURL()})) {
            return (List<?>) loader.loadClass(RUN).getMethod("told").invoke(null);
        }
    }

    private static void clear(Path made) throws IOException {
        List<Path> files;
        try (Stream<Path> found = Files.list(made)) {
            files = found.toList();
        }
        for (Path file : files) {
            Files.delete(file);
        }
        Files.delete(made);
    }

    /** A text of 200 bytes is asked with ten calls that feed it and one more. */
    private int callsMade() {
        int made = 0;
        for (String call : calls) {
            made += call.startsWith("ask(") ? 11 : 1;
        }
        return made;
    }

    /** What an issue asks of the page beside its code: each call, the calls' limit, the tests. */
    private void holdWords() throws IOException {
        String code = String.join("\n", lines);
        for (Method method : KeptAnswers.class.getDeclaredMethods()) {
            if (Modifier.isPublic(method.getModifiers())) {
                check.due(PAGE + " shows " + method.getName(), 1,
                    code.contains("." + method.getName() + "(") ? 1 : 0);
            }
        }
        check.due("calls of one object are few enough", 1, callsMade() <= MOST_CALLS ? 1 : 0);
        for (String words : List.of("at most " + MOST_CALLS + " calls", "    .ci/run\n", "`NONE` stands for",
                "`VOID` stands for")) {
            check.due(PAGE + " has the words " + words.trim(), 1, page.contains(words) ? 1 : 0);
        }
        try (Stream<Path> tests = Files.list(Path.of("src/test/java"))) {
            for (Path test : tests.toList()) {
                String name = test.getFileName().toString().replace(".java", "");
                check.due(PAGE + " names " + name, 1, page.contains("`" + name + "`") ? 1 : 0);
            }
        }
    }
}
