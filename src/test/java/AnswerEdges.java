/** The edges of what is told: promises 17 to 22 and 31 to 33, and when anything is told at all. */
final class AnswerEdges {
    private static final int NONE = Edges.NONE;
    private static final int VOID = Edges.VOID;
    private static final int LEAST = Edges.LEAST;
    private static final int MOST = Edges.MOST;
    private static final int[] CORNERS = {0x00, 0x0F, 0xF0, 0xFF};

    private final Edges edges;

    AnswerEdges(Edges edges) {
        this.edges = edges;
    }

    void all() {
        for (int front = 0; front <= 6; front++) {
            for (int folded = 0; folded <= front; folded++) {
                told(front, folded);
                toldOfTwo(front, folded);
                toldOfWhy(front, folded);
                toldOfWhen(front, folded);
            }
        }
        toldOfHundred();
        weightAndAnswer();
        sizeAndRow();
        changed();
        since();
        when();
        unlike();
        digest();
        refused();
        asking();
    }

    /** What a count at one row alone makes of all 0. */
    private static int digestOf(int cell, int count) {
        int digest = 7;
        for (int i = 0; i < 256; i++) {
            digest = 31 * digest + (i == cell ? count : 0);
        }
        return digest;
    }

    // ---- what is told

    /**
     * Six editions are closed, each with one more of the row 1, 2. Question 0 is a loop, done up
     * to its front; question 1 is the table.
     */
    private static KeptAnswers worked(int front, int folded) {
        KeptAnswers x = new KeptAnswers();
        Checks.ask(x, "loop(t0)");
        Checks.ask(x, "t0");
        for (int edition = 0; edition < 6; edition++) {
            x.change(0, 1, 2, 1);
            x.close();
        }
        for (int i = 0; i < front; i++) {
            x.work(0, 1);
        }
        x.fold(folded);
        return x;
    }

    private static boolean isTold(int edition, int front, int folded) {
        return edition >= 0 && edition >= folded - 1 && edition < front;
    }

    private static final int[] EDITIONS = {LEAST, -1, 0, 1, 2, 3, 4, 5, 6, 7, 100, MOST};

    private void told(int front, int folded) {
        KeptAnswers x = worked(front, folded);
        for (int edition : EDITIONS) {
            boolean told = isTold(edition, front, folded);
            String as = "edition " + edition + ", front " + front + ", folded " + folded;
            edges.sentence(17,
                "TOLD is what a NODE has as of an EDITION, if that is DONE on its SHELF, and not below "
                + "FOLDED less 1 (EDITION 0 and all others, while FOLDED is 0 or 1).");
            edges.due("a table: " + as, isTold(edition, 6, folded) ? edition + 1 : VOID,
                x.weight(0, 0, edition, 1, 2));
            edges.sentence(17, "VOID: that is not TOLD.");
            edges.due(as, told ? 1 : VOID, x.weight(0, 1, edition, 1, 2));
            edges.due("a row of 0: " + as, told ? 0 : VOID, x.weight(0, 1, edition, 2, 1));
            edges.sentence(18, "ANSWER for a ROW as of an EDITION; NONE: that is not TOLD.");
            edges.due(as, told ? 1 : NONE, x.answer(0, edition, 1, 2));
            edges.due("a row of 0: " + as, told ? 0 : NONE, x.answer(0, edition, 2, 1));
            edges.sentence(19, "NONE likewise.");
            edges.due(as, told ? 1 : NONE, x.size(0, edition));
            edges.sentence(20, "NONE: there is none, or likewise.");
            edges.due(as, told ? 0x12 : NONE, x.row(0, edition, 0));
            edges.sentence(21, "CHANGED; NONE: it is not TOLD (one of both).");
            boolean both = told && (edition == 0 || isTold(edition - 1, front, folded));
            edges.due(as, both ? edition == 0 ? 1 : 0 : NONE, x.changed(0, 1, edition));
            edges.sentence(32, "NONE: it is not TOLD for one of them.");
            int unlike = told ? edition == 0 ? 0 : 1 : NONE;
            edges.due(as, unlike, x.unlike(0, 1, edition));
            edges.due("the other way: " + as, unlike, x.unlike(1, 0, edition));
            edges.sentence(33, "DIGEST; 0: it is not TOLD.");
            edges.due(as, told ? digestOf(0x12, 1) : 0, x.digest(0, 1, edition));
        }
    }

    private void toldOfTwo(int front, int folded) {
        edges.sentence(22, "SINCE; NONE likewise.");
        KeptAnswers x = worked(front, folded);
        for (int from : EDITIONS) {
            for (int to : EDITIONS) {
                boolean told = isTold(from, front, folded) && isTold(to, front, folded);
                boolean table = isTold(from, 6, folded) && isTold(to, 6, folded);
                String as = from + " to " + to + ", front " + front + ", folded " + folded;
                edges.due(as, told ? 0 : NONE, x.since(0, 1, from, to));
                edges.due("a table: " + as, table ? from == to ? 0 : 1 : NONE, x.since(0, 0, from, to));
            }
        }
    }

    private void toldOfWhy(int front, int folded) {
        KeptAnswers x = worked(front, folded);
        for (int edition : EDITIONS) {
            boolean told = isTold(edition, front, folded);
            String as = "edition " + edition + ", front " + front + ", folded " + folded;
            edges.sentence(26, "or it is not TOLD.");
            edges.due(as, told ? 0x12 : NONE, x.way(0, 1, edition, 1, 2, 0));
            edges.sentence(27, "NONE: it is not TOLD.");
            edges.due(as, told ? 0 : NONE, x.without(0, edition, 1, 2, 0, 1, 2));
            edges.sentence(28, "NONE: it is not TOLD, or the ANSWER has 0.");
            edges.due(as, told ? 1 : NONE, x.needed(0, edition, 1, 2, 0));
            edges.sentence(29, "it is not TOLD, or the ANSWER has 0.");
            edges.due(as, told ? 0x12 : NONE, x.kern(0, edition, 1, 2, 0));
            edges.sentence(30, "it is not TOLD, or the ANSWER is above 0.");
            edges.due(as, told ? 0x21 : NONE, x.wanted(0, edition, 2, 1, 0, 0));
            edges.due("how many: " + as, told ? 1 : NONE, x.wanted(0, edition, 2, 1, 0, NONE));
        }
    }

    private void toldOfWhen(int front, int folded) {
        edges.sentence(31,
            "WHEN: the EDITIONS that are TOLD for a QUESTION, and the one ahead of which is TOLD,");
        KeptAnswers x = worked(front, folded);
        String as = "front " + front + ", folded " + folded;
        edges.due("a loop: " + as, front > 0 && folded < 2 ? 0 : NONE, x.when(0, 1, 2, 0));
        int first = folded < 2 ? 0 : folded;
        for (int k = 0; k <= 6; k++) {
            edges.due("a table: " + k + ", " + as, first + k < 6 ? first + k : NONE, x.when(1, 1, 2, k));
        }
    }

    private void toldOfHundred() {
        edges.sentence(17, "if that is DONE on its SHELF, and not below FOLDED less 1");
        KeptAnswers x = new KeptAnswers();
        Checks.ask(x, "flip(t0)");
        x.change(0, 15, 0, 5);
        Made.close(x, 100);
        edges.due("nothing is done", VOID, x.weight(0, 1, 0, 0, 15));
        x.finish(0);
        edges.due("edition 99", 5, x.weight(0, 1, 99, 0, 15));
        edges.due("edition 100 is open", VOID, x.weight(0, 1, 100, 0, 15));
        edges.due("edition 0", 5, x.weight(0, 1, 0, 0, 15));
        x.fold(100);
        edges.due("folded 100: edition 99", 5, x.weight(0, 1, 99, 0, 15));
        edges.due("folded 100: edition 98", VOID, x.weight(0, 1, 98, 0, 15));
        edges.due("folded 100: a table, edition 98", VOID, x.weight(0, 0, 98, 15, 0));
        edges.due("folded 100: changed", NONE, x.changed(0, 1, 99));
        edges.due("folded 100: when", NONE, x.when(0, 0, 15, 0));
        edges.due("folded 100: since", 0, x.since(0, 1, 99, 99));
        Checks.ask(x, "one(flip(t0))");
        edges.due("a new shelf: edition 99", 1, x.weight(1, 2, 99, 0, 15));
        edges.due("a new shelf: edition 98", VOID, x.weight(1, 2, 98, 0, 15));
    }

    // ---- promise 17 to 20

    private void weightAndAnswer() {
        edges.sentence(17, "COUNT of a NODE for a ROW as of an EDITION;");
        KeptAnswers x = new KeptAnswers();
        Checks.ask(x, "less(t1,flip(t0))");
        for (int i = 0; i < 4; i++) {
            x.change(0, CORNERS[i] / 16, CORNERS[i] % 16, 6 + i);
        }
        x.close();
        x.finish(0);
        for (int i = 0; i < 4; i++) {
            int a = CORNERS[i] / 16;
            int b = CORNERS[i] % 16;
            edges.due("the table in corner " + i, 6 + i, x.weight(0, 1, 0, a, b));
            edges.due("flip in corner " + i, 6 + i, x.weight(0, 2, 0, b, a));
            edges.due("less in corner " + i, -6 - i, x.weight(0, 3, 0, b, a));
            edges.due("the other table in corner " + i, 0, x.weight(0, 0, 0, a, b));
        }
        edges.sentence(18, "but 0 if it is below 0.");
        for (int cell : CORNERS) {
            edges.due("at " + cell, 0, x.answer(0, 0, cell / 16, cell % 16));
        }
    }

    private static KeptAnswers everyRow(String text) {
        KeptAnswers x = new KeptAnswers();
        for (int cell = 0; cell < 256; cell++) {
            x.change(0, cell / 16, cell % 16, 1);
        }
        x.close();
        Checks.ask(x, text);
        x.finish(0);
        return x;
    }

    private void sizeAndRow() {
        edges.sentence(19, "How many ROWS of an ANSWER are above 0 as of an EDITION;");
        edges.due("none", 0, Made.done("t0").size(0, 0));
        edges.due("the first row", 1, Made.done("t0", 0x00).size(0, 0));
        edges.due("the last row", 1, Made.done("t0", 0xFF).size(0, 0));
        edges.due("all", 256, everyRow("t0").size(0, 0));
        edges.due("none above 0", 0, everyRow("less(t1,t0)").size(0, 0));
        KeptAnswers owed = Made.done("t0", 0x11);
        owed.change(0, 1, 1, -1);
        owed.change(0, 2, 2, -1);
        owed.change(0, 3, 3, 1);
        owed.close();
        edges.due("0 and owed ones are none", 1, owed.size(0, 1));
        edges.sentence(20, "The k-th ROW of these (by A, then by B): 16 A and B;");
        edges.due("0 and owed ones are left out", 0x33, owed.row(0, 1, 0));
        KeptAnswers corners = Made.done("t0", 0xFF, 0xF0, 0x0F, 0x00);
        for (int k = 0; k < 4; k++) {
            edges.due("corner " + k, CORNERS[k], corners.row(0, 0, k));
        }
        KeptAnswers all = everyRow("one(t0)");
        for (int k = 0; k < 200; k += 15) {
            edges.due("of all, the " + k + "th", k, all.row(0, 0, k));
        }
        edges.due("the last", 255, all.row(0, 0, 255));
        edges.sentence(20, "NONE: there is none, or likewise.");
        edges.due("behind the last", NONE, all.row(0, 0, 256));
        edges.due("behind the last of 4", NONE, corners.row(0, 0, 4));
        edges.due("of none", NONE, Made.done("t0").row(0, 0, 0));
        for (int k : new int[] {-1, LEAST, MOST}) {
            edges.due("k of " + k, NONE, all.row(0, 0, k));
        }
    }

    // ---- promise 21 and 22

    private void changed() {
        edges.sentence(21,
            "CHANGED of a NODE in an EDITION that is TOLD (and the one ahead, if there is one): for how "
            + "many ROWS its COUNT is not as it was as of the EDITION ahead (0 as of the one ahead of "
            + "EDITION 0).");
        edges.due("edition 0, nothing there", 0, Made.done("flip(t0)").changed(0, 1, 0));
        edges.due("edition 0, all rows", 256, everyRow("flip(t0)").changed(0, 1, 0));
        edges.due("owed rows too", 256, everyRow("less(t1,t0)").changed(0, 2, 0));
        KeptAnswers x = Made.done("flip(t0)", 0x00, 0xFF, 0x0F, 0x77);
        x.change(0, 0, 0, 1);
        x.change(0, 15, 15, -1);
        x.change(0, 0, 15, -2);
        x.change(0, 7, 7, 3);
        x.change(0, 7, 7, -3);
        x.change(0, 15, 0, -1);
        x.close();
        x.finish(0);
        edges.due("more, less, owed, and one from 0; one as it was", 4, x.changed(0, 1, 1));
        edges.due("of the table", 4, x.changed(0, 0, 1));
        edges.due("edition 0 as it was", 4, x.changed(0, 1, 0));
        x.close();
        x.finish(0);
        edges.due("nothing changed", 0, x.changed(0, 1, 2));
        edges.sentence(21, "NONE: it is not TOLD (one of both).");
        x.fold(2);
        edges.due("the one ahead is folded away", NONE, x.changed(0, 1, 1));
        edges.due("the next has both", 0, x.changed(0, 1, 2));
    }

    private void since() {
        edges.sentence(22, "SINCE: likewise between any two EDITIONS that are TOLD.");
        KeptAnswers x = Made.done("flip(t0)", 0x00);
        x.change(0, 15, 15, 1);
        x.close();
        x.change(0, 15, 15, -1);
        x.change(0, 0, 0, -2);
        x.close();
        x.finish(0);
        int[][] want = {{0, 1, 1}, {1, 0, 2}, {1, 2, 0}};
        for (int from = 0; from < 3; from++) {
            for (int to = 0; to < 3; to++) {
                edges.due(from + " to " + to, want[from][to], x.since(0, 1, from, to));
                edges.due("of the table " + from + " to " + to, want[from][to], x.since(0, 0, from, to));
            }
        }
        KeptAnswers all = everyRow("flip(t0)");
        for (int b = 0; b < 16; b++) {
            all.change(0, 3, b, -1);
        }
        all.close();
        all.finish(0);
        edges.due("a line", 16, all.since(0, 1, 0, 1));
        KeptAnswers count = Made.done("count(t0)", 0x10, 0x11);
        count.change(0, 1, 0, 1);
        count.change(0, 1, 1, -1);
        count.close();
        count.finish(0);
        edges.due("what it hangs on is another, but not it", 0, count.since(0, 1, 0, 1));
    }

    // ---- promise 31 to 33

    private void when() {
        edges.sentence(31,
            "in which ANSWER for a ROW is not what it was as of the one ahead (EDITION 0: if it is above "
            + "0).");
        KeptAnswers x = new KeptAnswers();
        Checks.ask(x, "flip(t0)");
        // as of each: -1, 0, 1, 1, 3, -2, -1, 2
        int[] more = {-1, 1, 1, 0, 2, -5, 1, 3};
        for (int one : more) {
            if (one != 0) {
                x.change(0, 15, 0, one);
            }
            x.change(0, 3, 3, 1);
            x.close();
        }
        x.finish(0);
        int[] want = {2, 4, 5, 7};
        for (int k = 0; k < want.length; k++) {
            edges.due("the " + k + "th: below 0 is 0", want[k], x.when(0, 0, 15, k));
        }
        edges.sentence(31, "The k-th EDITION of WHEN (rising) for (a, b);");
        for (int k = 0; k < 8; k++) {
            edges.due("in each edition", k, x.when(0, 3, 3, k));
        }
        edges.sentence(31, "; NONE.");
        for (int k : new int[] {-1, 4, LEAST, MOST}) {
            edges.due("k of " + k, NONE, x.when(0, 0, 15, k));
        }
        edges.due("never", NONE, x.when(0, 1, 1, 0));
        KeptAnswers none = new KeptAnswers();
        Checks.ask(none, "t0");
        none.change(0, 0, 0, 1);
        edges.due("nothing is closed", NONE, none.when(0, 0, 0, 0));
        none.close();
        edges.due("edition 0 alone", 0, none.when(0, 0, 0, 0));
        KeptAnswers hundred = new KeptAnswers();
        Checks.ask(hundred, "t0");
        for (int i = 0; i < 100; i++) {
            hundred.change(0, 15, 15, 1);
            hundred.close();
        }
        edges.due("the first of 100", 0, hundred.when(0, 15, 15, 0));
        edges.due("the last of 100", 99, hundred.when(0, 15, 15, 99));
        edges.due("behind it", NONE, hundred.when(0, 15, 15, 100));
    }

    private void unlike() {
        edges.sentence(32, "For how many ROWS two QUESTIONS are UNLIKE;");
        KeptAnswers x = everyRow("t0");
        Checks.ask(x, "t1");
        Checks.ask(x, "less(t1,t0)");
        Checks.ask(x, "one(t0)");
        Checks.ask(x, "where(t0:a<15 or b<15)");
        Checks.ask(x, "where(t0:not a=0 or not b=0)");
        for (int q = 0; q < 6; q++) {
            x.finish(q);
        }
        edges.due("all", 256, x.unlike(0, 1, 0));
        edges.due("none", 0, x.unlike(0, 3, 0));
        edges.due("the last row", 1, x.unlike(0, 4, 0));
        edges.due("the first row", 1, x.unlike(5, 0, 0));
        edges.due("both of them", 2, x.unlike(4, 5, 0));
        edges.due("a question and itself", 0, x.unlike(4, 4, 0));
        edges.sentence(32,
            "UNLIKE are two QUESTIONS, as of an EDITION that is TOLD for both, at ROWS for which ANSWERS "
            + "are.");
        edges.due("below 0 is as 0", 0, x.unlike(1, 2, 0));
        edges.due("the other way", 0, x.unlike(2, 1, 0));
        edges.due("below 0 and above 0", 256, x.unlike(2, 0, 0));
        x.change(0, 1, 1, 1);
        x.close();
        x.finish(3);
        edges.due("told for both", 1, x.unlike(0, 3, 1));
        edges.due("not told for the second", NONE, x.unlike(0, 4, 1));
        edges.due("nor for the first", NONE, x.unlike(4, 0, 1));
        edges.due("a question that is not told and itself", NONE, x.unlike(4, 4, 1));
        edges.noSuchQuestion(32, (y, q) -> y.unlike(0, q, 1));
        edges.noSuchQuestion(32, (y, q) -> y.unlike(q, 0, 1));
        edges.noSuchQuestion(32, (y, q) -> y.unlike(q, q, 1));
    }

    private void digest() {
        edges.sentence(33, "DIGEST of a NODE: 7, then ROW by ROW 31 times that and the COUNT (32 bits).");
        edges.due("all 0", digestOf(0, 0), Made.done("flip(t0)").digest(0, 1, 0));
        for (int cell : new int[] {0x00, 0x0F, 0xF0, 0xFF, 0x12}) {
            KeptAnswers x = new KeptAnswers();
            x.change(0, cell / 16, cell % 16, -9);
            x.close();
            Checks.ask(x, "flip(t0)");
            x.finish(0);
            edges.due("one row: " + cell, digestOf(cell, -9), x.digest(0, 0, 0));
            edges.due("flipped", digestOf(cell % 16 * 16 + cell / 16, -9), x.digest(0, 1, 0));
        }
        int digest = 7;
        for (int i = 0; i < 256; i++) {
            digest = 31 * digest + 1;
        }
        edges.due("all rows", digest, everyRow("t0").digest(0, 0, 0));
        KeptAnswers least = new KeptAnswers();
        Made.tellMany(least, 0, 1, 1, 256);
        Made.tellMany(least, 1, 1, 1, 128);
        least.close();
        Checks.ask(least, "join(join(t0,t0),join(t0,t1))");
        least.finish(0);
        edges.due("the least number", digestOf(0x11, LEAST), least.digest(0, 6, 0));
    }

    // ---- what these calls refuse

    private void refused() {
        edges.noSuchQuestion(17, (x, q) -> x.weight(q, 0, 1, 0, 0));
        edges.noSuchNode(17, (x, node) -> x.weight(1, node, 1, 0, 0));
        edges.noSuchSide(17, "IllegalArgumentException: A or B.",
            (x, side) -> x.weight(1, 0, 1, side, 0), (x, side) -> x.weight(1, 0, 1, 0, side));
        edges.noSuchQuestion(18, (x, q) -> x.answer(q, 1, 0, 0));
        edges.noSuchSide(18, "A and B 0 to 15,",
            (x, side) -> x.answer(1, 1, side, 0), (x, side) -> x.answer(1, 1, 0, side));
        edges.noSuchQuestion(19, (x, q) -> x.size(q, 1));
        edges.noSuchQuestion(20, (x, q) -> x.row(q, 1, 0));
        edges.noSuchQuestion(21, (x, q) -> x.changed(q, 0, 2));
        edges.noSuchNode(21, (x, node) -> x.changed(1, node, 2));
        edges.noSuchQuestion(22, (x, q) -> x.since(q, 0, 1, 2));
        edges.noSuchNode(22, (x, node) -> x.since(1, node, 1, 2));
        edges.noSuchQuestion(31, (x, q) -> x.when(q, 0, 0, 0));
        edges.noSuchSide(31, "A and B 0 to 15,",
            (x, side) -> x.when(1, side, 0, 0), (x, side) -> x.when(1, 0, side, 0));
        edges.noSuchQuestion(33, (x, q) -> x.digest(q, 0, 1));
        edges.noSuchNode(33, (x, node) -> x.digest(1, node, 1));
        edges.sentence(17, "A and B 0 to 15,");
        edges.thrown("what is not told, too", Checks.ARGUMENT, () -> Made.busy().weight(1, 0, 0, 16, 0));
    }

    /** In the busy object row 3, 1 is new in edition 1, rows 2, 3 and (of table 1) 3, 4 are owed in 2. */
    private void asking() {
        edges.sentence(17, "COUNT of a NODE for a ROW as of an EDITION;");
        edges.leavesAll("asking leaves all as it was", -2, Made::busy, x -> x.weight(0, 0, 2, 2, 3));
        edges.sentence(18, "ANSWER for a ROW as of an EDITION;");
        edges.leavesAll("asking leaves all as it was", 1, Made::busy, x -> x.answer(1, 1, 1, 3));
        edges.sentence(19, "How many ROWS of an ANSWER are above 0 as of an EDITION;");
        edges.leavesAll("asking leaves all as it was", 9, Made::busy, x -> x.size(0, 1));
        edges.sentence(20, "The k-th ROW of these (by A, then by B): 16 A and B;");
        edges.leavesAll("asking leaves all as it was", 0x31, Made::busy, x -> x.row(0, 2, 1));
        edges.sentence(21, "CHANGED; NONE: it is not TOLD (one of both).");
        edges.leavesAll("asking leaves all as it was", 6, Made::busy, x -> x.changed(0, 1, 2));
        edges.sentence(22, "SINCE; NONE likewise.");
        edges.leavesAll("asking leaves all as it was", 6, Made::busy, x -> x.since(0, 1, 2, 1));
        edges.sentence(31, "The k-th EDITION of WHEN (rising) for (a, b);");
        edges.leavesAll("asking leaves all as it was", 2, Made::busy, x -> x.when(0, 2, 3, 0));
        edges.sentence(32, "For how many ROWS two QUESTIONS are UNLIKE;");
        edges.leavesAll("asking leaves all as it was", 1, Made::busy, x -> x.unlike(0, 1, 1));
        edges.sentence(33, "DIGEST; 0: it is not TOLD.");
        edges.leavesAll("asking leaves all as it was", digestOf(0x43, -1), Made::busy, x -> x.digest(1, 3, 2));
    }
}
