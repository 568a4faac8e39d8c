import java.io.IOException;
import java.lang.reflect.Constructor;
import java.lang.reflect.Field;
import java.lang.reflect.Method;
import java.lang.reflect.Modifier;
import java.nio.file.Files;
import java.nio.file.Path;
import java.util.ArrayList;
import java.util.Arrays;
import java.util.List;
import java.util.Set;
import java.util.TreeSet;
import java.util.regex.Matcher;
import java.util.regex.Pattern;

/** The class's face is the document's, and its source keeps to what LANGUAGE.md leaves. */
public final class FaceTest {
    private static final String SOURCE = "src/main/java/KeptAnswers.java";
    /** Name and number of arguments, and the first letters of what it throws, in order. */
    private static final String FACE = "change4 IxIl late5 IxIl room1 Il drop0 close0 Is rows4 IxIl "
        + "feed5 question1 Il fault0 leave1 Ns nodes1 Ns shelf2 NsIx front2 NsIx work2 NsIx finish1 Ns "
        + "weight5 NsIxIl answer4 NsIl size2 Ns row3 Ns changed3 NsIx since4 NsIx fold1 Il reader1 Il "
        + "gone1 Ix way6 NsIxIl without7 NsIxIl needed5 NsIxIl kern5 NsIl wanted6 NsIxIl when4 NsIl "
        + "unlike3 Ns digest3 NsIx ready2 Ns lacks2 Ns told2 IxIl back0 count1";
    private static final List<String> FORBIDDEN = List.of("\\bsynchronized\\b", "\\bassert\\b",
        "\\bfinally\\b", "\\bcatch\\b", "->", "::", "\\.hashCode\\(", "\\.toString\\(",
        "\\.getMessage\\(", "Exact\\(", "\\bdouble\\b", "\\bfloat\\b", "System\\.(?!arraycopy)",
        "java\\.util\\.(?!Arrays;|NoSuchElementException;)", "Arrays\\.(?!fill|copyOf|NoSuch)",
        "\" \\+", "\\+ \"", "\\bstatic \\{", "\\bpackage\\b", "[^\\x00-\\x7F]");

    private static final Checks CHECK = new Checks("FaceTest");

    public static void main(String[] args) throws IOException {
        members();
        nested();
        source(Files.readString(Path.of(SOURCE)));
        CHECK.end();
    }

    private static void members() {
        Class<?> face = KeptAnswers.class;
        CHECK.due("public and final", Modifier.PUBLIC | Modifier.FINAL, face.getModifiers());
        Set<String> open = new TreeSet<>();
        Set<String> hidden = new TreeSet<>();
        StringBuilder unlike = new StringBuilder();
        for (Method method : face.getDeclaredMethods()) {
            if (Modifier.isPrivate(method.getModifiers())) {
                hidden.add(method.getName());
            } else {
                open.add(method.getName());
                unlike.append(check(method));
            }
        }
        CHECK.due("methods unlike the document's: " + unlike, 0, unlike.length());
        CHECK.due("how many methods", FACE.split("[0-9]").length, open.size());
        hidden.retainAll(open);
        CHECK.due("private methods with a public name: " + hidden, 0, hidden.size());
        for (Field field : face.getDeclaredFields()) {
            boolean constant = List.of("NONE", "VOID").contains(field.getName());
            int want = constant ? Modifier.PUBLIC : Modifier.PRIVATE;
            CHECK.due("field " + field.getName(), want,
                field.getModifiers() & (Modifier.PUBLIC | Modifier.PRIVATE | Modifier.PROTECTED));
        }
        Constructor<?>[] constructors = face.getDeclaredConstructors();
        CHECK.due("constructors", 1, constructors.length);
        CHECK.due("its arguments", 0, constructors[0].getParameterCount());
    }

    private static String check(Method method) {
        StringBuilder throwing = new StringBuilder();
        for (Class<?> thrown : method.getExceptionTypes()) {
            String name = thrown.getSimpleName();
            throwing.append(name.startsWith("Index") ? "Ix" : name.startsWith("NoSuch") ? "Ns"
                : name.startsWith("IllegalS") ? "Is" : "Il");
        }
        String want = (method.getName() + method.getParameterCount() + " " + throwing).trim();
        boolean known = (FACE + " ").matches("(.* )?" + want + " ([a-z].*)?");
        return known && Modifier.isPublic(method.getModifiers())
            && method.getReturnType() == int.class ? "" : want + "; ";
    }

    private static void nested() {
        int classes = 1;
        for (Class<?> inner : KeptAnswers.class.getDeclaredClasses()) {
            classes++;
            CHECK.due(inner + " is static", 1, Modifier.isStatic(inner.getModifiers()) ? 1 : 0);
            CHECK.due(inner + " is hidden", 0,
                inner.getModifiers() & (Modifier.PUBLIC | Modifier.PROTECTED));
            int fields = 0;
            for (Field field : inner.getDeclaredFields()) {
                fields += Modifier.isStatic(field.getModifiers()) ? 0 : 1;
            }
            CHECK.due(inner + " has few fields", 1, fields <= 20 ? 1 : 0);
            for (Method method : inner.getDeclaredMethods()) {
                boolean named = Arrays.stream(KeptAnswers.class.getMethods())
                    .anyMatch(other -> other.getDeclaringClass() == KeptAnswers.class
                        && other.getName().equals(method.getName()));
                CHECK.due(inner + "." + method.getName() + " has a name of the face", 0, named ? 1 : 0);
            }
        }
        CHECK.due("few classes", 1, classes <= 12 ? 1 : 0);
    }

    private static void source(String text) {
        String bare = text.replaceAll("(?s)/\\*.*?\\*/", "").replaceAll("//[^\n]*", "");
        for (String forbidden : FORBIDDEN) {
            Matcher found = Pattern.compile(forbidden).matcher(bare);
            CHECK.due(forbidden + " stands in the source", 0, found.find() ? 1 : 0);
        }
        List<String> lines = new ArrayList<>(text.lines().toList());
        int begin = -1;
        for (int i = 0; i < lines.size(); i++) {
            String line = lines.get(i);
            if (line.matches("( {4}| {8})[a-zA-Z].*\\(.*[^;]") && !line.contains(" = ")) {
                begin = i;
            }
            if (line.matches("( {4}| {8})\\}") && begin >= 0) {
                CHECK.due("line " + (begin + 1) + " begins a short method", 1,
                    i - begin < 60 ? 1 : 0);
                begin = -1;
            }
        }
    }
}
