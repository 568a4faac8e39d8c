import java.util.Random;

/**
 * Promises 9 and 10: texts made by chance, most of them faulty, are held against Grammar, which has
 * the document's grammar as data and not, as the class and Model, as functions that call each other.
 */
public final class GrammarTest {
    private static final int TEXTS = 20_000;
    private static final int MOST_BYTES = 200;
    private static final String[] ONES =
        {"flip", "one", "count", "sum", "least", "middle", "most", "loop"};
    private static final String[] TWOS = {"join", "add", "less", "both"};
    /** What is put into a text to make it faulty. */
    private static final String[] BITS = {"t", "t0", "t4", "t12", "(", ")", ",", ":", "[", "]", "not",
        "and", "or", "a", "b", "<", ">", "=", "1", "16", "015", " ", "where", "flip", "join", "x", "~",
        "\u0000", "T", "0", "nota", "aand", " not ", " [", "not not ", "[[", "[not "};

    private final Random random;

    private GrammarTest(long seed) {
        random = new Random(seed);
    }

    /** Arguments: how many texts, the seed; both may be left out. */
    public static void main(String[] args) {
        int texts = args.length > 0 ? Integer.parseInt(args[0]) : TEXTS;
        GrammarTest test = new GrammarTest(args.length > 1 ? Long.parseLong(args[1]) : 1);
        Checks check = new Checks("GrammarTest");
        int[] seen = new int[4];
        for (int i = 0; i < texts; i++) {
            String text = test.aText();
            Grammar due = new Grammar(text);
            seen[due.fault]++;
            KeptAnswers x = new KeptAnswers();
            int got = Checks.ask(x, text);
            check.due("question \"" + text + "\"", due.fault == 0 ? 0 : due.fault - 10, got);
            check.due("fault() of \"" + text + "\"", due.place, x.fault());
        }
        for (int fault = 0; fault < seen.length; fault++) {
            System.out.println("texts with fault " + fault + ": " + seen[fault]);
            check.due("some texts have fault " + fault, 1, texts < TEXTS || seen[fault] > 0 ? 1 : 0);
        }
        check.end();
    }

    private String aText() {
        StringBuilder text = new StringBuilder(operator(1 + random.nextInt(5)));
        for (int times = random.nextInt(4); times > 0; times--) {
            spoil(text, random.nextInt(text.length() + 1));
        }
        text.setLength(Math.min(MOST_BYTES, text.length()));
        return text.toString();
    }

    private void spoil(StringBuilder text, int at) {
        int end = Math.min(text.length(), at + random.nextInt(4));
        switch (random.nextInt(5)) {
            case 0 -> text.insert(at, oneOf(BITS));
            case 1 -> text.delete(at, end);
            case 2 -> text.replace(at, end, Character.toString(random.nextInt(256)));
            case 3 -> text.setLength(random.nextInt(3) == 0 ? at : text.length());
            default -> text.replace(at, end, oneOf(BITS));
        }
    }

    private String oneOf(String[] some) {
        return some[random.nextInt(some.length)];
    }

    private String blank() {
        return " ".repeat(Math.max(0, random.nextInt(12) - 9));
    }

    private String operator(int depth) {
        int kind = depth == 0 ? 0 : random.nextInt(5);
        if (kind < 2) {
            return blank() + "t" + random.nextInt(4);
        }
        String word = kind == 2 ? oneOf(ONES) : kind == 3 ? oneOf(TWOS) : "where";
        String more = kind == 3 ? "," + operator(depth - 1) : kind == 4 ? ":" + choice(4) : "";
        return blank() + word + blank() + "(" + operator(depth - 1) + blank() + more + blank() + ")";
    }

    private String choice(int depth) {
        StringBuilder text = new StringBuilder(base(depth));
        while (random.nextInt(3) == 0) {
            text.append(random.nextBoolean() ? " or " : " and ").append(base(depth));
        }
        return text.toString();
    }

    private String base(int depth) {
        int kind = depth == 0 ? 3 : random.nextInt(4);
        if (kind == 0) {
            return blank() + "not " + base(depth - (random.nextInt(3) == 0 ? 1 : 0));
        }
        if (kind == 1) {
            return blank() + "[" + choice(depth - 1) + blank() + "]";
        }
        return term() + blank() + "<>=".charAt(random.nextInt(3)) + term();
    }

    private String term() {
        int kind = random.nextInt(4);
        String number = "0".repeat(random.nextInt(6) / 5) + random.nextInt(kind == 3 ? 17 : 16);
        return blank() + (kind == 0 ? "a" : kind == 1 ? "b" : number);
    }
}
