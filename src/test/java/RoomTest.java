import java.lang.management.ManagementFactory;

/** All calls of a run live in one room: after a full object is made, calls make next to nothing. */
public final class RoomTest {
    private static final long OBJECT_BYTES = 400_000;
    private static final com.sun.management.ThreadMXBean THREADS =
        (com.sun.management.ThreadMXBean) ManagementFactory.getThreadMXBean();

    public static void main(String[] args) {
        Checks check = new Checks("RoomTest");
        // the machine's own objects for the classes are made by the first calls
        KeptAnswers first = new KeptAnswers();
        run(first);
        dear(first, 0);
        long before = allocated();
        KeptAnswers x = new KeptAnswers();
        long made = allocated() - before;
        check.due("bytes of a new object, " + made + ", are few", 1, made < 40_000 ? 1 : 0);
        before = allocated();
        int calls = run(x);
        long used = allocated() - before;
        check.due("bytes of " + calls + " calls, " + used + ", are few", 1, used < OBJECT_BYTES ? 1 : 0);
        before = allocated();
        for (int i = 0; i < 20; i++) {
            dear(x, i);
        }
        used = allocated() - before;
        check.due("bytes of calls that ask, " + used, 1, used < 2_000 ? 1 : 0);
        check.end();
    }

    private static long allocated() {
        return THREADS.getCurrentThreadAllocatedBytes();
    }

    private static int run(KeptAnswers x) {
        for (int q = 0; q < 6; q++) {
            String loop = "join(t" + q % 4 + ",loop(flip(t" + (q + 1) % 4 + ")))";
            Checks.ask(x, "add(sum(" + loop + "),both(join(t0,t" + q % 4 + "),t1))");
        }
        int calls = 0;
        for (int edition = 0; edition < 30; edition++) {
            for (int i = 0; i < 8; i++) {
                x.change(i % 4, (edition * 7 + i) % 16, (edition * 3 + i * 5) % 16, 1 + i);
                calls++;
            }
            x.close();
            for (int q = 0; q < 6; q++) {
                x.finish(q);
                calls++;
            }
        }
        return calls;
    }

    private static void dear(KeptAnswers x, int i) {
        int q = i % 6;
        x.wanted(q, i, i % 16, 1, i % 4, KeptAnswers.NONE);
        x.needed(q, i, i % 16, 1, i % 4);
        x.kern(q, i, i % 16, 1, 50);
        x.when(q, i % 16, 1, 50);
        x.since(q, x.nodes(q) - 1, i, 29);
        x.unlike(q, 0, i);
        x.digest(q, x.nodes(q) - 1, i);
    }
}
