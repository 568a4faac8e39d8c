import java.math.BigInteger;
import java.util.ArrayDeque;
import java.util.ArrayList;
import java.util.Deque;
import java.util.LinkedHashSet;
import java.util.List;
import java.util.Set;

/**
 * The first fault of a text, by the document's grammar as a list of rules: after each sign or word the
 * places in all rules that the text can have come to are known (Earley's way), and so what can stand
 * next. A text without a fault has fault 0 at place -1.
 */
final class Grammar {
    private static final int CANNOT_STAND = 1;
    private static final int NONE_SUCH = 2;
    private static final int TOO_MANY = 3;
    private static final String END = "end";
    private static final String[][] RULES = {
        {"text", "E", END},
        {"E", "table"}, {"E", "W", "(", "E", ")"}, {"E", "V", "(", "E", ",", "E", ")"},
        {"E", "where", "(", "E", ":", "C", ")"},
        {"C", "P"}, {"C", "C", "or", "P"},
        {"P", "B"}, {"P", "P", "and", "B"},
        {"B", "not", "B"}, {"B", "[", "C", "]"}, {"B", "X", "R", "X"},
        {"X", "a"}, {"X", "b"}, {"X", "N"},
    };
    private static final Set<String> W =
        Set.of("flip", "one", "count", "sum", "least", "middle", "most", "loop");
    private static final Set<String> V = Set.of("join", "add", "less", "both");
    private static final Set<String> OPERATORS = Set.of("table", "W", "V", "where");
    private static final Set<String> TERMS = Set.of("a", "b", "N");

    /** A place in a rule, and how many signs and words stood ahead as the rule began. */
    private record Item(int rule, int at, int from) {
        String next() {
            return at + 1 < RULES[rule].length ? RULES[rule][at + 1] : null;
        }

        Item further() {
            return new Item(rule, at + 1, from);
        }
    }

    private final String text;
    private final List<Set<Item>> reached = new ArrayList<>();
    private final Deque<String> open = new ArrayDeque<>();
    private int at;
    private int operators;
    private int terms;
    int fault;
    int place = -1;

    Grammar(String text) {
        this.text = text;
        reach(Set.of(new Item(0, 0, 0)));
        boolean more = true;
        while (more) {
            while (at < text.length() && text.charAt(at) == ' ') {
                at++;
            }
            more = at < text.length() && take();
        }
        if (fault == 0 && !canStand(END)) {
            fail(CANNOT_STAND, text.length());
        }
    }

    private boolean fail(int kind, int where) {
        fault = kind;
        place = where;
        return false;
    }

    /** Goes past the next sign, word or number; false: it has a fault. */
    private boolean take() {
        int begin = at;
        String taken = takeRun();
        int digits = at;
        String number = taken.equals("t") && isDigit() ? takeRun() : "";
        String kind = kindOf(taken);
        if (!canStand(kind)) {
            return fail(CANNOT_STAND, begin);
        }
        if (kind.equals("N") && new BigInteger(taken).compareTo(BigInteger.valueOf(15)) > 0
                || kind.equals("table") && !number.matches("[0-3]?")) {
            return fail(NONE_SUCH, begin);
        }
        operators += OPERATORS.contains(kind) ? 1 : 0;
        if (kind.equals("[") || kind.equals("not")) {
            open.push(kind);
        }
        if (operators > 12 || open.size() > 6) {
            return fail(TOO_MANY, begin);
        }
        if (kind.equals("table") && number.isEmpty()) {
            return fail(CANNOT_STAND, digits);
        }
        closeBehind(kind);
        goFurther(kind);
        return true;
    }

    /** Small letters or digits, as many as stand there, or one sign. */
    private String takeRun() {
        int begin = at;
        String alike = isDigit() ? "[0-9]+" : "[a-z]+";
        at++;
        while (at < text.length() && text.substring(begin, at + 1).matches(alike)) {
            at++;
        }
        return text.substring(begin, at);
    }

    private boolean isDigit() {
        return at < text.length() && text.charAt(at) >= '0' && text.charAt(at) <= '9';
    }

    private static String kindOf(String taken) {
        return W.contains(taken) ? "W" : V.contains(taken) ? "V" : taken.equals("t") ? "table"
            : taken.matches("[0-9]+") ? "N" : taken.matches("[<>=]") ? "R"
            : taken.matches("where|or|and|not|a|b|[(),:\\[\\]]") ? taken : "nothing";
    }

    /** A B ends with its second term or with its ], and each not that stands right ahead with it. */
    private void closeBehind(String kind) {
        terms += TERMS.contains(kind) ? 1 : 0;
        boolean ends = kind.equals("]") || TERMS.contains(kind) && terms % 2 == 0;
        if (kind.equals("]")) {
            open.pop();
        }
        while (ends && "not".equals(open.peek())) {
            open.pop();
        }
    }

    // ---- Earley's sets

    private Set<Item> latest() {
        return reached.get(reached.size() - 1);
    }

    private boolean canStand(String kind) {
        return latest().stream().anyMatch(item -> kind.equals(item.next()));
    }

    private void goFurther(String kind) {
        Set<Item> next = new LinkedHashSet<>();
        for (Item item : latest()) {
            if (kind.equals(item.next())) {
                next.add(item.further());
            }
        }
        reach(next);
    }

    private void reach(Set<Item> first) {
        Set<Item> all = new LinkedHashSet<>(first);
        reached.add(all);
        Deque<Item> todo = new ArrayDeque<>(first);
        while (!todo.isEmpty()) {
            Item item = todo.poll();
            for (Item follows : item.next() == null ? behind(item) : begun(item.next())) {
                if (all.add(follows)) {
                    todo.add(follows);
                }
            }
        }
    }

    private List<Item> begun(String name) {
        List<Item> begun = new ArrayList<>();
        for (int rule = 0; rule < RULES.length; rule++) {
            if (RULES[rule][0].equals(name)) {
                begun.add(new Item(rule, 0, reached.size() - 1));
            }
        }
        return begun;
    }

    private List<Item> behind(Item ended) {
        List<Item> behind = new ArrayList<>();
        for (Item item : reached.get(ended.from())) {
            if (RULES[ended.rule()][0].equals(item.next())) {
                behind.add(item.further());
            }
        }
        return behind;
    }
}
