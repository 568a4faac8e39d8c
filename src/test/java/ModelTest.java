import java.lang.reflect.InvocationTargetException;
import java.lang.reflect.Method;
import java.util.Arrays;
import java.util.HashMap;
import java.util.List;
import java.util.Map;
import java.util.NoSuchElementException;
import java.util.Random;
import java.util.TreeMap;

/** Runs of chosen calls, each on a fresh KeptAnswers and a fresh Model: both must answer alike. */
public final class ModelTest {
    private static final int RUNS = 400;
    private static final int CALLS = 512;

    private static final List<Class<?>> THROWN = List.of(IllegalStateException.class,
        IllegalArgumentException.class, IndexOutOfBoundsException.class,
        NoSuchElementException.class);
    private static final Map<String, Method> OF_KEPT = methods(KeptAnswers.class);
    private static final Map<String, Method> OF_MODEL = methods(Model.class);
    /** How many calls of each method were thrown, NONE or the like, 0, and above. */
    private static final Map<String, int[]> TALLY = new TreeMap<>();

    private static final String[] ONES =
        {"flip", "one", "count", "sum", "least", "middle", "most", "loop"};
    private static final String[] TWOS = {"join", "add", "less", "both"};

    private final Random random;
    private final KeptAnswers kept = new KeptAnswers();
    private final Model model = new Model();
    private final int width;
    private final int many;
    private int calls;
    private int texts;
    private int question;
    private int edition;
    private int row;

    private ModelTest(long seed) {
        random = new Random(seed);
        width = 2 + random.nextInt(15);
        many = 1 + random.nextInt(9);
    }

    private static Map<String, Method> methods(Class<?> of) {
        Map<String, Method> all = new HashMap<>();
        for (Method method : of.getDeclaredMethods()) {
            boolean numbers = Arrays.stream(method.getParameterTypes()).allMatch(int.class::equals);
            if (numbers && method.getReturnType() == int.class) {
                method.setAccessible(true);
                all.put(method.getName(), method);
            }
        }
        return all;
    }

    /** Arguments: how many runs, the first one's seed; both may be left out. */
    public static void main(String[] args) {
        int runs = args.length > 0 ? Integer.parseInt(args[0]) : RUNS;
        long from = args.length > 1 ? Long.parseLong(args[1]) : 1;
        for (long seed = from; seed < from + runs; seed++) {
            new ModelTest(seed).run(seed);
        }
        TALLY.forEach((name, n) -> System.out.println(name + ": thrown " + n[0] + ", below 0 "
            + n[1] + ", 0 " + n[2] + ", above " + n[3]));
        System.out.println(runs + " runs answered like the model");
    }

    private void run(long seed) {
        while (calls < CALLS) {
            String text = random.nextInt(100) < (texts < 8 ? 8 : 1) ? aText() : null;
            if (text != null) {
                texts++;
                ask(seed, text);
            } else {
                callOne(seed);
            }
        }
    }

    private void ask(long seed, String text) {
        StringBuilder padded = new StringBuilder(text);
        int tail = random.nextInt(5) == 0 ? 1 : 0;
        while (padded.length() % 20 != 0 || tail-- > 0) {
            padded.append((char) (random.nextInt(3) == 0 ? random.nextInt(256) : ' '));
        }
        for (int i = 0; i + 20 <= padded.length(); i += 20) {
            int[] n = new int[5];
            for (int j = 0; j < 20; j++) {
                n[j / 4] = n[j / 4] << 8 | padded.charAt(i + j);
            }
            same(seed, "feed", n);
        }
        int length = random.nextInt(12) == 0 ? random.nextInt(210) - 5 : text.length();
        same(seed, "question", length);
        same(seed, "fault");
    }

    private void same(long seed, String name, int... values) {
        calls++;
        String got = outcome(OF_KEPT.get(name), kept, values);
        String due = outcome(OF_MODEL.get(name), model, values);
        if (!got.equals(due)) {
            System.out.println("seed " + seed + ", call " + calls + ": " + name
                + Arrays.toString(values) + " answered " + got + ", due is " + due);
            System.exit(1);
        }
        int kind = got.startsWith("throws") ? 0 : got.startsWith("-") ? 1 : got.equals("0") ? 2 : 3;
        TALLY.computeIfAbsent(name, any -> new int[4])[kind]++;
    }

    private static String outcome(Method method, Object on, int[] values) {
        try {
            return String.valueOf(method.invoke(on, Arrays.stream(values).boxed().toArray()));
        } catch (InvocationTargetException e) {
            Throwable thrown = e.getCause();
            boolean own = THROWN.contains(thrown.getClass())
                && thrown.getStackTrace()[0].getClassName().equals(on.getClass().getName());
            return (own ? "throws " : "the machine threw ") + thrown.getClass().getSimpleName();
        } catch (IllegalAccessException e) {
            return "cannot be called";
        }
    }

    // ---- choosing calls

    /** Each method with what its arguments are, by the letters that value() knows. */
    private static final String[] OFTEN = {"change tabm", "close", "finish q", "work qn"};
    private static final String[] ELSE = {"late tabme", "room r", "drop", "back", "rows tabo",
        "leave q", "nodes q", "shelf qn", "front qn", "work qn", "weight qneab", "answer qeab",
        "size qe", "row qek", "changed qne", "since qneo", "fold o", "reader o", "gone k",
        "way qneabk", "way qneabk", "without qeabtab", "when qabk", "unlike qqe", "digest qne",
        "ready qk", "lacks qo", "told ck", "count r", "needed qeabt", "kern qeabk",
        "wanted qeabtk"};

    private void callOne(long seed) {
        int choice = random.nextInt(100);
        String call = choice < 25 ? OFTEN[0] : choice < 32 ? OFTEN[1] : choice < 42 ? OFTEN[2]
            : choice < 45 ? OFTEN[3] : ELSE[random.nextInt(ELSE.length)];
        boolean rare = call.startsWith("leave") || call.startsWith("fold")
            || call.startsWith("reader") || call.startsWith("drop");
        if (rare && random.nextInt(4) != 0) {
            return;
        }
        int blank = call.indexOf(' ');
        String name = blank < 0 ? call : call.substring(0, blank);
        String letters = blank < 0 ? "" : call.substring(blank + 1);
        same(seed, name, letters.chars().map(this::value).toArray());
    }

    private int value(int letter) {
        int closed = model.count(0);
        switch (letter) {
            case 'q': return question = random.nextInt(30) == 0 ? near(5) : aQuestion();
            case 'n': return random.nextInt(20) == 0 ? near(11) : random.nextInt(nodesOf(question));
            case 't': return random.nextInt(3) == 0 ? near(3) : 0;
            case 'a': return chooseRow() / 16;
            case 'b': return random.nextInt(60) == 0 ? near(15) : row % 16;
            case 'm': return random.nextInt(5) == 0 ? near(9) : random.nextInt(3) == 0 ? -many : many;
            case 'e': return edition = random.nextInt(6) == 0 ? near(closed)
                : Math.max(0, closed - 1 - random.nextInt(3));
            case 'o': return near(Math.min(100, closed + 1));
            case 'k': return near(3) - (random.nextInt(5) == 0 ? 1 : 0);
            case 'c': return near(Math.max(0, model.count(1)));
            default: return near(10);
        }
    }

    private int aQuestion() {
        int from = random.nextInt(6);
        for (int i = 0; i < 6; i++) {
            if (nodesOf((from + i) % 6) > 1) {
                return (from + i) % 6;
            }
        }
        return from;
    }

    private int nodesOf(int which) {
        try {
            return model.nodes(which);
        } catch (NoSuchElementException e) {
            return 1;
        }
    }

    /** Mostly one of an answer's, so that not all calls ask for what is 0. */
    private int chooseRow() {
        row = 16 * random.nextInt(width) + random.nextInt(width);
        if (nodesOf(question) > 1 && random.nextInt(3) != 0) {
            int above = model.size(question, edition);
            row = above > 0 ? model.row(question, edition, random.nextInt(above)) : row;
        }
        return random.nextInt(60) == 0 ? 16 * near(15) : row;
    }

    private int near(int most) {
        return random.nextInt(40) == 0 ? new int[] {-1, most + 1, Integer.MIN_VALUE,
            Integer.MAX_VALUE}[random.nextInt(4)] : random.nextInt(most + 1);
    }

    // ---- texts

    private int left;

    private String aText() {
        left = 1 + random.nextInt(random.nextInt(8) == 0 ? 15 : 12);
        String text = operator() + blank();
        if (random.nextInt(4) == 0 && !text.isEmpty()) {
            int at = random.nextInt(text.length());
            String bad = "abtfno(),:[]<>=0123 16 99 not and where(join(t0 t7 t11 ";
            int from = random.nextInt(bad.length());
            String put = bad.substring(from, Math.min(bad.length(), from + random.nextInt(4)));
            text = text.substring(0, at) + put + text.substring(Math.min(text.length(),
                at + random.nextInt(3)));
        }
        return text.length() > 200 ? null : text;
    }

    private String blank() {
        return random.nextInt(9) == 0 ? " ".repeat(1 + random.nextInt(2)) : "";
    }

    private String operator() {
        left--;
        int kind = random.nextInt(10);
        if (kind == 4) {
            return blank() + "loop(" + operator() + ")";
        }
        if (left <= 0 || kind == 0) {
            return blank() + "t" + (random.nextInt(3) == 0 ? random.nextInt(4) : 0);
        }
        if (kind < 5) {
            return blank() + ONES[random.nextInt(8)] + blank() + "(" + operator() + blank() + ")";
        }
        if (kind < 8 && left >= 2) {
            return blank() + TWOS[random.nextInt(4)] + blank() + "(" + operator() + blank() + ","
                + operator() + blank() + ")";
        }
        return blank() + "where(" + operator() + blank() + ":" + choice(0) + blank() + ")";
    }

    private String choice(int open) {
        String text = part(open);
        while (random.nextInt(4) == 0) {
            text += " or" + part(open);
        }
        return text;
    }

    private String part(int open) {
        String text = base(open);
        while (random.nextInt(4) == 0) {
            text += " and" + base(open);
        }
        return text;
    }

    private String base(int open) {
        int kind = random.nextInt(5);
        if (open < 7 && kind == 0) {
            return blank() + " not" + base(open + 1);
        }
        if (open < 7 && kind == 1) {
            return blank() + "[" + choice(open + 1) + blank() + "]";
        }
        return term() + blank() + "<>=".charAt(random.nextInt(3)) + term();
    }

    private String term() {
        int kind = random.nextInt(3);
        return " " + (kind == 0 ? "a" : kind == 1 ? "b" : (random.nextInt(5) == 0 ? "0" : "")
            + random.nextInt(random.nextInt(30) == 0 ? 20 : 16));
    }
}
