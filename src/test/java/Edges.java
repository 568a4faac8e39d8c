import java.io.IOException;
import java.util.ArrayList;
import java.util.List;
import java.util.concurrent.Callable;
import java.util.function.Supplier;

/**
 * What the tests of the document's edges check with: every check stands under a promise and the
 * words of the document that it is for, and is told with them if it fails.
 */
final class Edges {
    static final int NONE = KeptAnswers.NONE;
    static final int VOID = KeptAnswers.VOID;
    static final int LEAST = Integer.MIN_VALUE;
    static final int MOST = Integer.MAX_VALUE;
    private static final int PROMISES = 38;

    /** A call of an object; what it answers. */
    interface Call {
        int of(KeptAnswers x);
    }

    /** A call of an object with one number that matters; what it answers. */
    interface NumberCall {
        int of(KeptAnswers x, int number);
    }

    private final Checks check = new Checks("EdgesTest");
    private final Document document = new Document();
    private final boolean[] tested = new boolean[PROMISES + 1];
    private String sentence = "";

    Edges() throws IOException {
    }

    /** The checks from here on are for these words of a promise, or of the terms that it uses. */
    void sentence(int promise, String words) {
        sentence = "promise " + promise + ", \"" + words + "\": ";
        check.due(sentence + "the document has these words", 1, document.name(promise, words) ? 1 : 0);
        tested[promise] = true;
    }

    void due(String what, long want, long got) {
        check.due(sentence + what, want, got);
    }

    void thrown(String what, Class<?> want, Callable<Integer> call) {
        check.thrown(sentence + what, want, call);
    }

    /** What a call of one of two like objects answers, or throws; both are like then, too. */
    void leavesAll(String what, Object want, Supplier<KeptAnswers> made, Call call) {
        KeptAnswers x = made.get();
        KeptAnswers untouched = made.get();
        if (want instanceof Class<?> thrown) {
            thrown(what, thrown, () -> call.of(x));
        } else {
            due(what, (Integer) want, call.of(x));
        }
        List<String> got = new Glance(x).all();
        List<String> due = new Glance(untouched).all();
        List<String> unlike = new ArrayList<>();
        for (int i = 0; i < Math.max(got.size(), due.size()); i++) {
            String one = i < got.size() ? got.get(i) : "nothing";
            String other = i < due.size() ? due.get(i) : "nothing";
            if (!one.equals(other)) {
                unlike.add(one + " for " + other);
            }
        }
        due(what + ": what is another behind it: " + unlike, 0, unlike.size());
    }

    /** Numbers that a call must refuse by throwing, each on an object that has some of everything. */
    private void refusesAll(String what, Class<?> want, NumberCall call, int... numbers) {
        for (int number : numbers) {
            leavesAll(what + " " + number, want, Made::busy, x -> call.of(x, number));
        }
    }

    void noSuchQuestion(int promise, NumberCall call) {
        sentence(promise, "NoSuchElementException: no such QUESTION, or it was LEFT (so below).");
        refusesAll("question", Checks.ELEMENT, call, -1, 3, 4, 5, 6, 7, LEAST, MOST);
    }

    /** The call is to ask question 1, which has nodes 0 to 4. */
    void noSuchNode(int promise, NumberCall call) {
        sentence(promise, "IndexOutOfBoundsException: no such NODE (so below).");
        refusesAll("node", Checks.INDEX, call, -1, 5, 6, 11, 12, LEAST, MOST);
    }

    void noSuchTable(int promise, String words, NumberCall call) {
        sentence(promise, words);
        refusesAll("table", Checks.INDEX, call, -1, 4, LEAST, MOST);
    }

    void noSuchSide(int promise, String words, NumberCall... calls) {
        sentence(promise, words);
        for (int i = 0; i < calls.length; i++) {
            refusesAll("the " + (i + 1) + ". of its A and B:", Checks.ARGUMENT, calls[i], -1, 16, LEAST, MOST);
        }
    }

    void noSuchNumber(int promise, String words, NumberCall call, int... numbers) {
        sentence(promise, words);
        refusesAll("number", Checks.ARGUMENT, call, numbers);
    }

    void end() {
        for (int promise = 1; promise <= PROMISES; promise++) {
            check.due("promise " + promise + " has a test of its edges", 1, tested[promise] ? 1 : 0);
        }
        List<String> unnamed = document.unnamed();
        check.due("words of the document that no test names: " + unnamed, 0, unnamed.size());
        check.end();
    }

    /** All that can be seen of an object by some 200 calls; the last of them change it. */
    private static final class Glance {
        private final KeptAnswers x;
        private final List<String> seen = new ArrayList<>();

        Glance(KeptAnswers x) {
            this.x = x;
        }

        List<String> all() {
            for (int what = 0; what <= 8; what++) {
                see("count " + what, x.count(what));
            }
            see("fault", x.fault());
            changes();
            for (int q = 0; q < 6; q++) {
                question(q);
            }
            whatComes();
            return seen;
        }

        private void see(String what, Object answer) {
            seen.add(what + " is " + answer);
        }

        private static String outcome(Callable<Integer> call) {
            try {
                return String.valueOf(call.call());
            } catch (Exception e) {
                return e.getClass().getSimpleName();
            }
        }

        /** The latest changes told, and the counts of their rows. */
        private void changes() {
            int told = x.count(1);
            for (int i = Math.max(0, told - 4); i < told; i++) {
                for (int what = 0; what <= 5; what++) {
                    see("change " + i + ", " + what, x.told(i, what));
                }
                see("rows of change " + i,
                    x.rows(x.told(i, 0), x.told(i, 1), x.told(i, 2), x.count(0)));
            }
        }

        private void question(int q) {
            String nodes = outcome(() -> x.nodes(q));
            see("nodes of " + q, nodes);
            int last = nodes.matches("\\d+") ? Integer.parseInt(nodes) - 1 : -1;
            for (int node = 0; node <= last && node < 5; node++) {
                int at = node;
                see("shelf " + q + ", " + node, x.shelf(q, node));
                see("front " + q + ", " + node, x.front(q, node));
                for (int back = 1; back <= 3; back++) {
                    int edition = x.count(0) - back;
                    see("digest " + q + ", " + node, outcome(() -> x.digest(q, at, edition)));
                }
            }
        }

        /** What the calls that change an object do with it from here on. */
        private void whatComes() {
            see("room", x.room(10));
            see("late", outcome(() -> x.late(0, 0, 0, 1, x.count(0) - 1)));
            see("change", x.change(0, 0, 0, 1));
            see("reader", x.reader(100));
            see("fold", x.fold(100));
            for (int reader = 0; reader < 8; reader++) {
                int number = reader;
                see("gone " + reader, outcome(() -> x.gone(number)));
            }
            int fed = x.count(8);
            see("question", x.question(Math.min(7, fed)));
            see("fault", x.fault());
            see("close", outcome(x::close));
            for (int q = 0; q < 6; q++) {
                int number = q;
                see("finish " + q, outcome(() -> x.finish(number)));
                see("size of " + q, outcome(() -> x.size(number, x.count(0) - 1)));
            }
            see("fold", x.fold(100));
        }
    }
}
