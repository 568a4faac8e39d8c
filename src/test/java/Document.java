import java.io.IOException;
import java.nio.file.Files;
import java.nio.file.Path;
import java.util.ArrayList;
import java.util.List;
import java.util.regex.Matcher;
import java.util.regex.Pattern;

/** The document's sentences: where each stands, and which of them a test has named. */
final class Document {
    private static final Path PLACE = Path.of("../shared/DOC.md");
    /** What is no sentence: headings, signatures, and the numbers of the parts of "Terms". */
    private static final Pattern BESIDE =
        Pattern.compile("## [^#]*?: [a-zA-Z ]+? `|## Terms|`[^`]*`:|==== \\d\\.|The constants:");

    private final String text;
    private final boolean[] named;

    Document() throws IOException {
        text = Files.readString(PLACE).replaceAll("(?m)^```.*$", "").replaceAll("\\s+", " ");
        named = new boolean[text.length()];
        Matcher beside = BESIDE.matcher(text);
        for (int from = 0; beside.find(from); from = beside.end() - 1) {
            mark(beside.start(), beside.end());
        }
    }

    /**
     * Names words that stand in a promise, or in what stands ahead of all promises, or in one
     * ahead of it that says that they hold "so below".
     */
    boolean name(int promise, String words) {
        int begin = beginOf(promise);
        int at = text.indexOf(words, begin);
        if (at < 0 || at >= endOf(promise)) {
            at = text.indexOf(words);
        }
        boolean ahead = at >= 0 && (at < beginOf(1) || words.contains("(so below)"));
        if (begin < 0 || at < 0 || at >= endOf(promise) || at < begin && !ahead) {
            return false;
        }
        mark(at, at + words.length());
        return true;
    }

    /** What stands in "Terms" and in the promises, and was not named. */
    List<String> unnamed() {
        List<String> left = new ArrayList<>();
        int end = text.indexOf("## Not promised");
        int begin = text.indexOf("## Terms");
        for (int i = begin; i < end; i++) {
            if (named[i]) {
                addIfWords(left, text.substring(begin, i));
                begin = i + 1;
            }
        }
        addIfWords(left, text.substring(begin, end));
        return left;
    }

    private static void addIfWords(List<String> left, String stretch) {
        if (stretch.matches(".*[a-zA-Z0-9].*")) {
            left.add(stretch.trim());
        }
    }

    private int beginOf(int promise) {
        return text.indexOf("## Promise " + promise + ":");
    }

    private int endOf(int promise) {
        return text.indexOf("## ", beginOf(promise) + 1);
    }

    private void mark(int from, int to) {
        for (int i = from; i < to; i++) {
            named[i] = true;
        }
    }
}
