import java.io.IOException;
import java.lang.reflect.Constructor;
import java.lang.reflect.Field;
import java.lang.reflect.Method;
import java.lang.reflect.Modifier;
import java.nio.file.Files;
import java.nio.file.Path;
import java.util.ArrayList;
import java.util.Arrays;
import java.util.List;
import java.util.Set;
import java.util.TreeSet;
import java.util.regex.Matcher;
import java.util.regex.Pattern;

/** The class's face is the document's, and its source keeps to what LANGUAGE.md leaves. */
public final class FaceTest {
    private static final String SOURCE = "src/main/java/KeptAnswers.java";
    private static final String DOCUMENT = "../shared/DOC.md";
    private static final Pattern FACE = Pattern.compile("(?s)## The public face\\s+```java(.*?)```");
    private static final Pattern PROMISE = Pattern.compile("(?m)^## Promise \\d+: .*\\s+`([^`]*)`");
    private static final List<String> FORBIDDEN = List.of("\\bsynchronized\\b", "\\bassert\\b",
        "\\bfinally\\b", "\\bcatch\\b", "->", "::", "\\.hashCode\\(", "\\.toString\\(",
        "\\.getMessage\\(", "Exact\\(", "\\bdouble\\b", "\\bfloat\\b", "System\\.(?!arraycopy)",
        "java\\.util\\.(?!Arrays;|NoSuchElementException;)", "Arrays\\.(?!fill|copyOf|NoSuch)",
        "\" \\+", "\\+ \"", "\\bstatic \\{", "\\bpackage\\b", "[^\\x00-\\x7F]");

    private static final Checks CHECK = new Checks("FaceTest");

    public static void main(String[] args) throws IOException {
        String source = Files.readString(Path.of(SOURCE));
        face(Files.readString(Path.of(DOCUMENT)), source);
        members();
        nested();
        source(source);
        CHECK.end();
    }

    /** Each line of the document's face stands in the source, names and throws too, and no other. */
    private static void face(String document, String source) {
        Matcher found = FACE.matcher(document);
        CHECK.due("the document has a face", 1, found.find() ? 1 : 0);
        Set<String> due = new TreeSet<>();
        for (String line : found.group(1).split("[;{}]")) {
            due.add(line.replaceAll("\\s+", " ").trim());
        }
        due.remove("");
        Set<String> got = new TreeSet<>();
        Matcher open = Pattern.compile("(?m)^( {4})?(import|public)\\b[^;{]*").matcher(source);
        while (open.find()) {
            got.add(open.group().replaceAll("\\s+", " ").trim());
        }
        // a library that LANGUAGE.md leaves may be named beside the face's own
        got.remove("import java.util.Arrays");
        CHECK.due("the source's face " + got + " is the document's " + due, 1, got.equals(due) ? 1 : 0);
        Matcher promise = PROMISE.matcher(document);
        int promises = 0;
        while (promise.find()) {
            promises++;
            CHECK.due("promise " + promises + " has a line of the face: " + promise.group(1), 1,
                got.contains("public " + promise.group(1)) ? 1 : 0);
        }
        CHECK.due("promises", 38, promises);
        CHECK.due("NONE", -1, KeptAnswers.NONE);
        CHECK.due("VOID", Integer.MIN_VALUE, KeptAnswers.VOID);
    }

    private static void members() {
        Class<?> face = KeptAnswers.class;
        CHECK.due("public and final", Modifier.PUBLIC | Modifier.FINAL, face.getModifiers());
        Set<String> open = new TreeSet<>();
        Set<String> hidden = new TreeSet<>();
        for (Method method : face.getDeclaredMethods()) {
            boolean isPrivate = Modifier.isPrivate(method.getModifiers());
            (isPrivate ? hidden : open).add(method.getName());
            CHECK.due(method + " is private or public", 1,
                isPrivate || Modifier.isPublic(method.getModifiers()) ? 1 : 0);
        }
        CHECK.due("how many methods", 37, open.size());
        hidden.retainAll(open);
        CHECK.due("private methods with a public name: " + hidden, 0, hidden.size());
        for (Field field : face.getDeclaredFields()) {
            boolean constant = List.of("NONE", "VOID").contains(field.getName());
            int want = constant ? Modifier.PUBLIC : Modifier.PRIVATE;
            CHECK.due("field " + field.getName(), want,
                field.getModifiers() & (Modifier.PUBLIC | Modifier.PRIVATE | Modifier.PROTECTED));
        }
        Constructor<?>[] constructors = face.getDeclaredConstructors();
        CHECK.due("constructors", 1, constructors.length);
        CHECK.due("its arguments", 0, constructors[0].getParameterCount());
    }

    private static void nested() {
        int classes = 1;
        for (Class<?> inner : KeptAnswers.class.getDeclaredClasses()) {
            classes++;
            CHECK.due(inner + " is static", 1, Modifier.isStatic(inner.getModifiers()) ? 1 : 0);
            CHECK.due(inner + " is hidden", 0,
                inner.getModifiers() & (Modifier.PUBLIC | Modifier.PROTECTED));
            int fields = 0;
            for (Field field : inner.getDeclaredFields()) {
                fields += Modifier.isStatic(field.getModifiers()) ? 0 : 1;
            }
            CHECK.due(inner + " has few fields", 1, fields <= 20 ? 1 : 0);
            for (Method method : inner.getDeclaredMethods()) {
                boolean named = Arrays.stream(KeptAnswers.class.getMethods())
                    .anyMatch(other -> other.getDeclaringClass() == KeptAnswers.class
                        && other.getName().equals(method.getName()));
                CHECK.due(inner + "." + method.getName() + " has a name of the face", 0, named ? 1 : 0);
            }
        }
        CHECK.due("few classes", 1, classes <= 12 ? 1 : 0);
    }

    private static void source(String text) {
        String bare = text.replaceAll("(?s)/\\*.*?\\*/", "").replaceAll("//[^\n]*", "");
        for (String forbidden : FORBIDDEN) {
            Matcher found = Pattern.compile(forbidden).matcher(bare);
            CHECK.due(forbidden + " stands in the source", 0, found.find() ? 1 : 0);
        }
        List<String> lines = new ArrayList<>(text.lines().toList());
        int begin = -1;
        for (int i = 0; i < lines.size(); i++) {
            String line = lines.get(i);
            if (line.matches("( {4}| {8})[a-zA-Z].*\\(.*[^;]") && !line.contains(" = ")) {
                begin = i;
            }
            if (line.matches("( {4}| {8})\\}") && begin >= 0) {
                CHECK.due("line " + (begin + 1) + " begins a short method", 1,
                    i - begin < 60 ? 1 : 0);
                begin = -1;
            }
        }
    }
}
