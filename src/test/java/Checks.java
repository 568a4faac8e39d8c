import java.util.concurrent.Callable;

/** What a test counts: answers that are not as due are printed, and fail the test at its end. */
final class Checks {
    static final Class<?> INDEX = IndexOutOfBoundsException.class;
    static final Class<?> ARGUMENT = IllegalArgumentException.class;
    static final Class<?> STATE = IllegalStateException.class;
    static final Class<?> ELEMENT = java.util.NoSuchElementException.class;

    private final String name;
    private int made;
    private int wrong;

    Checks(String name) {
        this.name = name;
    }

    void due(String what, long want, long got) {
        made++;
        if (got != want) {
            wrong++;
            System.out.println(what + " answered " + got + ", due is " + want);
        }
    }

    void thrown(String what, Class<?> want, Callable<Integer> call) {
        made++;
        String got;
        try {
            got = "answered " + call.call();
        } catch (Exception e) {
            if (e.getClass() == want) {
                return;
            }
            got = "threw " + e;
        }
        wrong++;
        System.out.println(what + " " + got + ", due is " + want.getSimpleName());
    }

    void end() {
        System.out.println(name + ": " + made + " checks, " + wrong + " wrong");
        if (wrong > 0) {
            System.exit(1);
        }
    }

    /** Feeds a text, twenty bytes at a time, and asks it. */
    static int ask(KeptAnswers x, String text) {
        feed(x, text);
        return x.question(text.length());
    }

    static void feed(KeptAnswers x, String text) {
        for (int from = 0; from < text.length(); from += 20) {
            int[] n = new int[5];
            for (int i = 0; i < 20; i++) {
                int sign = from + i < text.length() ? text.charAt(from + i) : 0;
                n[i / 4] = n[i / 4] << 8 | sign;
            }
            x.feed(n[0], n[1], n[2], n[3], n[4]);
        }
    }
}
