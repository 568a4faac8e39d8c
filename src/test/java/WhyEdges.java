/** The edges of why an answer is, and what it would be: promises 26 to 30. */
final class WhyEdges {
    private static final int NONE = Edges.NONE;
    private static final int LEAST = Edges.LEAST;
    private static final int MOST = Edges.MOST;
    private static final int[] CORNERS = {0x00, 0x0F, 0xF0, 0xFF};

    private final Edges edges;

    WhyEdges(Edges edges) {
        this.edges = edges;
    }

    void all() {
        way();
        wayLongest();
        wayOfOthers();
        without();
        withoutWholeLines();
        withoutBesideLoops();
        needed();
        kern();
        kernOneAfterTheOther();
        wanted();
        wantedMany();
        refused();
        asking();
    }

    // ---- promise 26

    private void wayDue(String what, KeptAnswers x, int node, int from, int to, int... want) {
        for (int k = 0; k < want.length; k++) {
            edges.due(what + ", row " + k, want[k], x.way(0, node, 0, from, to, k));
        }
        for (int k : new int[] {want.length, want.length + 1, -1, LEAST, MOST}) {
            edges.due(what + ", no row " + k, NONE, x.way(0, node, 0, from, to, k));
        }
    }

    private void way() {
        edges.sentence(26,
            "WAY: of a NODE that is a loop, TOLD, from A to B: the fewest ROWS of its operand by which "
            + "one comes there;");
        KeptAnswers x = Made.done("loop(t0)", 0x01, 0x12, 0x23, 0x30, 0x02, 0x13);
        wayDue("one row", x, 1, 0, 2, 0x02);
        wayDue("two rows, of three", x, 1, 0, 3, 0x01, 0x13);
        wayDue("there and back, the shorter", x, 1, 0, 0, 0x01, 0x13, 0x30);
        wayDue("from 3", x, 1, 3, 2, 0x30, 0x02);
        wayDue("from 2 to 2", x, 1, 2, 2, 0x23, 0x30, 0x02);
        wayDue("a row to itself", Made.done("loop(t0)", 0xFF, 0xF0, 0x0F), 1, 15, 15, 0xFF);
        wayDue("there and back", Made.done("loop(t0)", 0xF0, 0x0F), 1, 15, 15, 0xF0, 0x0F);
        wayDue("through a row to itself", Made.done("loop(t0)", 0x01, 0x11, 0x12), 1, 0, 2, 0x01, 0x12);
        edges.sentence(26, "of these the first (ROW by ROW the least B).");
        KeptAnswers two = Made.done("loop(t0)", 0x0F, 0x07, 0x08, 0xFE, 0x7D, 0x8C, 0x7E, 0xE9, 0xD9, 0xC9);
        wayDue("the least first row", two, 1, 0, 9, 0x07, 0x7D, 0xD9);
        wayDue("the least that leads there", two, 1, 0, 12, 0x08, 0x8C);
        wayDue("the least first row, then its only one", Made.done("loop(t0)", 0x01, 0x02, 0x1F, 0x23, 0xF9, 0x39),
            1, 0, 9, 0x01, 0x1F, 0xF9);
        wayDue("by 0", Made.done("loop(t0)", 0x50, 0x51, 0x09, 0x19), 1, 5, 9, 0x50, 0x09);
    }

    private void wayLongest() {
        edges.sentence(26, "The k-th ROW of the WAY of a loop (16 A and B);");
        int[] ring = new int[16];
        int[] back = new int[16];
        for (int i = 0; i < 16; i++) {
            ring[i] = 16 * i + (i + 1) % 16;
            back[i] = 16 * (15 - i) + (14 - i & 15);
        }
        wayDue("16 rows", Made.done("loop(t0)", ring), 1, 0, 0, ring);
        wayDue("16 rows back", Made.done("loop(t0)", back), 1, 15, 15, back);
        int[] fifteen = java.util.Arrays.copyOf(ring, 15);
        wayDue("15 rows", Made.done("loop(t0)", fifteen), 1, 0, 15, fifteen);
        wayDue("no way back", Made.done("loop(t0)", fifteen), 1, 15, 0);
        edges.sentence(26, "NONE: there is no WAY, no k-th one,");
        wayDue("no row", Made.done("loop(t0)"), 1, 0, 0);
        wayDue("no row from there", Made.done("loop(t0)", 0x01), 1, 1, 0);
        wayDue("not to itself", Made.done("loop(t0)", 0x01), 1, 0, 0);
        wayDue("an owed row is none", owed("loop(t0)"), 1, 1, 3);
        wayDue("one ahead of it is", owed("loop(t0)"), 1, 1, 2, 0x12);
    }

    /** Row 1, 2 has 2 and row 2, 3 is owed 2, row 3, 4 has 0. */
    private static KeptAnswers owed(String text) {
        KeptAnswers x = new KeptAnswers();
        x.change(0, 1, 2, 2);
        x.change(0, 2, 3, -2);
        x.change(0, 3, 4, 2);
        x.change(0, 3, 4, -2);
        x.close();
        Checks.ask(x, text);
        x.finish(0);
        return x;
    }

    private void wayOfOthers() {
        edges.sentence(26, "the NODE is no loop, or it is not TOLD.");
        KeptAnswers x = Made.done("one(loop(flip(t0)))", 0x21, 0x32);
        wayDue("a table", x, 0, 1, 2);
        wayDue("flip", x, 1, 1, 2);
        wayDue("the loop, by its operand's rows", x, 2, 1, 3, 0x12, 0x23);
        wayDue("what stands above it", x, 3, 1, 2);
        KeptAnswers twice = Made.done("loop(loop(t0))", 0x12, 0x23);
        wayDue("the loop below", twice, 1, 1, 3, 0x12, 0x23);
        wayDue("the loop of it", twice, 2, 1, 3, 0x13);
        KeptAnswers y = Made.done("add(loop(t0),loop(t1))", 0x12);
        wayDue("the first loop", y, 1, 1, 2, 0x12);
        wayDue("the second", y, 3, 1, 2);
        KeptAnswers late = Made.done("loop(flip(t0))", 0x21);
        Made.tell(late, 0x32);
        late.close();
        late.work(0, 1);
        edges.due("the operand is done, the loop is not", NONE, late.way(0, 2, 1, 1, 3, 0));
        late.work(0, 2);
        edges.due("now it is", 0x23, late.way(0, 2, 1, 1, 3, 1));
        edges.due("as of the one ahead", NONE, late.way(0, 2, 0, 1, 3, 0));
    }

    // ---- promise 27

    private void without() {
        edges.sentence(27, "WITHOUT a ROW (x, y) of a TABLE: the ANSWER for (a, b);");
        KeptAnswers x = Made.done("flip(t0)", CORNERS);
        for (int cell : CORNERS) {
            for (int other : CORNERS) {
                edges.due("without " + other + ", " + cell, cell == other ? 0 : 1,
                    x.without(0, 0, cell % 16, cell / 16, 0, other / 16, other % 16));
            }
        }
        edges.sentence(27,
            "WITHOUT: what ANSWER a QUESTION would have, as of an EDITION that is TOLD, if one ROW of a "
            + "TABLE had COUNT 0 there.");
        edges.due("a row that has 0", 1, x.without(0, 0, 0, 0, 0, 7, 7));
        edges.due("of another table", 1, x.without(0, 0, 0, 0, 1, 0, 0));
        edges.due("an answer of 0 stays 0", 0, x.without(0, 0, 3, 3, 0, 0, 0));
        KeptAnswers y = new KeptAnswers();
        y.change(0, 1, 1, 5);
        y.change(1, 1, 1, 7);
        y.change(2, 1, 1, -3);
        y.change(3, 1, 1, 1);
        y.close();
        Checks.ask(y, "less(add(t0,t2),add(t1,t3))");
        y.finish(0);
        edges.due("below 0 is 0", 0, y.answer(0, 0, 1, 1));
        edges.due("still below 0", 0, y.without(0, 0, 1, 1, 3, 1, 1));
        edges.due("without what is taken off", 1, y.without(0, 0, 1, 1, 1, 1, 1));
        edges.due("without what is owed", 0, y.without(0, 0, 1, 1, 2, 1, 1));
        edges.due("the answer is as it was", 0, y.answer(0, 0, 1, 1));
        KeptAnswers twice = Made.done("join(t0,t0)", 0x11, 0x11, 0x11);
        edges.due("a row that counts twice", 9, twice.answer(0, 0, 1, 1));
        edges.due("without it", 0, twice.without(0, 0, 1, 1, 0, 1, 1));
        KeptAnswers owedTwice = new KeptAnswers();
        owedTwice.change(0, 1, 2, -1);
        owedTwice.change(1, 2, 5, -1);
        owedTwice.close();
        Checks.ask(owedTwice, "join(t0,t1)");
        owedTwice.finish(0);
        edges.due("owed times owed", 1, owedTwice.without(0, 0, 1, 5, 0, 9, 9));
        edges.due("without the first", 0, owedTwice.without(0, 0, 1, 5, 0, 1, 2));
        edges.due("without the second", 0, owedTwice.without(0, 0, 1, 5, 1, 2, 5));
        KeptAnswers edition = Made.done("one(t0)", 0x11);
        Made.tellOf(edition, 1, 0x22);
        edition.change(0, 2, 2, 9);
        edition.close();
        edition.finish(0);
        edges.due("as of 0", 0, edition.without(0, 0, 2, 2, 0, 1, 1));
        edges.due("as of 1", 1, edition.without(0, 1, 2, 2, 0, 1, 1));
        edges.due("as of 1, without it", 0, edition.without(0, 1, 2, 2, 0, 2, 2));
    }

    /** One row of table 0 is what all sixteen rows of one A come from. */
    private void withoutWholeLines() {
        edges.sentence(27, "if one ROW of a TABLE had COUNT 0 there.");
        KeptAnswers x = new KeptAnswers();
        x.change(0, 1, 3, 1);
        for (int b = 0; b < 16; b++) {
            x.change(1, 3, b, 2);
        }
        x.close();
        Checks.ask(x, "flip(join(t0,t1))");
        x.finish(0);
        for (int b = 0; b < 16; b++) {
            edges.due("with all, " + b, 2, x.without(0, 0, b, 1, 0, 9, 9));
            edges.due("a whole line goes, " + b, 0, x.without(0, 0, b, 1, 0, 1, 3));
            edges.due("one of it goes, " + b, b == 7 ? 0 : 2, x.without(0, 0, b, 1, 1, 3, 7));
        }
        edges.due("it is needed", 1, x.needed(0, 0, 15, 1, 0));
    }

    /** A loop that the row is not of stays as it is, whichever loop was worked ahead of it. */
    private void withoutBesideLoops() {
        edges.sentence(27, "WITHOUT: what ANSWER a QUESTION would have, as of an EDITION that is TOLD,");
        KeptAnswers x = new KeptAnswers();
        Made.tellOf(x, 0, 0x12, 0x23, 0x14);
        Made.tellOf(x, 1, 0x35, 0x56);
        x.close();
        Checks.ask(x, "join(loop(t0),loop(t1))");
        x.finish(0);
        edges.due("by both loops", 1, x.answer(0, 0, 1, 6));
        edges.due("without a row beside the way", 1, x.without(0, 0, 1, 6, 0, 1, 4));
        edges.due("without one of the first loop's", 0, x.without(0, 0, 1, 6, 0, 2, 3));
        edges.due("without one of the second's", 0, x.without(0, 0, 1, 6, 1, 5, 6));
        edges.due("the shorter way stays", 1, x.without(0, 0, 1, 5, 1, 5, 6));
        edges.due("two of the first are needed", 2, x.needed(0, 0, 1, 6, 0));
        edges.due("two of the second are", 2, x.needed(0, 0, 1, 6, 1));
    }

    // ---- promise 28

    private void needed() {
        edges.sentence(28, "How many ROWS of a TABLE are NEEDED for (a, b);");
        KeptAnswers ring = new KeptAnswers();
        for (int a = 0; a < 16; a++) {
            ring.change(0, a, (a + 1) % 16, 1);
        }
        ring.close();
        Checks.ask(ring, "loop(t0)");
        ring.finish(0);
        edges.due("all of 16", 16, ring.needed(0, 0, 0, 0, 0));
        edges.due("the last from 15 to 0", 1, ring.needed(0, 0, 15, 0, 0));
        edges.due("none of another table", 0, ring.needed(0, 0, 0, 0, 3));
        KeptAnswers corners = Made.done("one(t0)", CORNERS);
        for (int cell : CORNERS) {
            edges.due("itself, " + cell, 1, corners.needed(0, 0, cell / 16, cell % 16, 0));
        }
        edges.sentence(28,
            "NEEDED is a ROW of a TABLE for a ROW of an ANSWER above 0, if WITHOUT it that is 0.");
        KeptAnswers both = Made.done("add(t0,t1)", 0x11);
        edges.due("one of table 0", 1, both.needed(0, 0, 1, 1, 0));
        both.change(1, 1, 1, 1);
        both.close();
        both.finish(0);
        edges.due("neither alone is", 0, both.needed(0, 1, 1, 1, 0));
        edges.due("nor the other", 0, both.needed(0, 1, 1, 1, 1));
        edges.due("as of the one ahead it is", 1, both.needed(0, 0, 1, 1, 0));
        edges.due("a row that is owed", 1, owed("less(t1,t0)").needed(0, 0, 2, 3, 0));
        KeptAnswers one = new KeptAnswers();
        one.change(0, 15, 15, -1);
        one.close();
        Checks.ask(one, "less(t1,t0)");
        one.finish(0);
        edges.due("one that is owed once", 1, one.needed(0, 0, 15, 15, 0));
        KeptAnswers below = Made.done("less(t0,t1)", 0x11);
        below.change(0, 1, 1, 1);
        below.change(1, 1, 1, 1);
        below.close();
        below.finish(0);
        edges.due("without it the answer is below 0, which is 0", 1, below.needed(0, 1, 1, 1, 0));
        edges.sentence(28, "NONE: it is not TOLD, or the ANSWER has 0.");
        edges.due("0", NONE, both.needed(0, 1, 2, 2, 0));
        edges.due("below 0", NONE, owed("t0").needed(0, 0, 2, 3, 0));
        edges.due("0, and a table that it does not hang on", NONE, both.needed(0, 1, 2, 2, 3));
    }

    // ---- promise 29

    private void kernDue(String what, KeptAnswers x, int a, int b, int... want) {
        for (int k = 0; k < want.length; k++) {
            edges.due(what + ", row " + k, want[k], x.kern(0, 0, a, b, k));
        }
        for (int k : new int[] {want.length, -1, LEAST, MOST}) {
            edges.due(what + ", no row " + k, NONE, x.kern(0, 0, a, b, k));
        }
    }

    private void kern() {
        edges.sentence(29, "The k-th ROW of the KERN for (a, b) (256 times the TABLE, 16 A and B);");
        for (int cell : CORNERS) {
            kernDue("itself", Made.done("one(t0)", CORNERS), cell / 16, cell % 16, cell);
        }
        KeptAnswers four = new KeptAnswers();
        for (int table = 0; table < 4; table++) {
            for (int cell : CORNERS) {
                four.change(table, cell / 16, cell % 16, 1);
            }
        }
        four.close();
        Checks.ask(four, "both(both(t3,t2),both(t1,t0))");
        four.finish(0);
        kernDue("one of each table", four, 15, 15, 255, 511, 767, 1023);
        kernDue("one of each table", four, 0, 0, 0, 256, 512, 768);
        int[] ring = new int[16];
        for (int i = 0; i < 16; i++) {
            ring[i] = 16 * i + (i + 1) % 16;
        }
        kernDue("all of 16", Made.done("loop(t0)", ring), 0, 0, ring);
        edges.sentence(29, "NONE: there is no such one, it is not TOLD, or the ANSWER has 0.");
        kernDue("an answer of 0", four, 3, 3);
        kernDue("one below 0", owed("t0"), 2, 3);
        kernDue("nothing stays", owed("less(t1,t0)"), 2, 3);
    }

    private void kernOneAfterTheOther() {
        edges.sentence(29,
            "KERN of an ANSWER above 0: of all ROWS of all TABLES with a COUNT above 0 (by TABLES, A, B) "
            + "one after the other is taken away (it has COUNT 0 then), if the ANSWER is still above 0; "
            + "those that stay.");
        kernDue("the last of three ways", Made.done("loop(t0)", 0x01, 0x09, 0x19, 0x02, 0x29), 0, 9, 0x09);
        kernDue("the last of two", Made.done("loop(t0)", 0x01, 0x19, 0x02, 0x29), 0, 9, 0x02, 0x29);
        KeptAnswers tables = new KeptAnswers();
        for (int table = 0; table < 4; table++) {
            tables.change(table, 1, 1, 4 - table);
        }
        tables.close();
        Checks.ask(tables, "add(add(t3,t2),add(t1,t0))");
        tables.finish(0);
        kernDue("the last table stays", tables, 1, 1, 768 + 0x11);
        KeptAnswers whole = new KeptAnswers();
        whole.change(0, 1, 1, 5);
        whole.change(1, 1, 1, 4);
        whole.change(2, 1, 1, 3);
        whole.close();
        Checks.ask(whole, "less(add(t0,t1),t2)");
        whole.finish(0);
        // 5 of table 0 can go (4 - 3 is above 0), then 4 of table 1 can't; what is taken off can
        kernDue("all of a row, not one of it", whole, 1, 1, 256 + 0x11);
        KeptAnswers freed = new KeptAnswers();
        freed.change(0, 1, 1, 1);
        freed.change(1, 1, 1, 1);
        freed.change(2, 1, 1, 1);
        freed.close();
        Checks.ask(freed, "less(add(t1,t2),t0)");
        freed.finish(0);
        kernDue("what was taken away stays away", freed, 1, 1, 512 + 0x11);
        KeptAnswers opened = new KeptAnswers();
        Made.tellOf(opened, 0, 0x12);
        Made.tellOf(opened, 2, 0x15, 0x25);
        Made.tellOf(opened, 3, 0x11, 0x12);
        opened.close();
        Checks.ask(opened, "join(less(t3,t0),t2)");
        opened.finish(0);
        kernDue("what went opened a way, by which others can go", opened, 1, 5, 512 + 0x25, 768 + 0x12);
        KeptAnswers least = Made.done("where(least(t0):b>3)", 0x14, 0x15);
        kernDue("what would make it 0 stays", least, 1, 4, 0x14);
        KeptAnswers beside = Made.done("one(t0)", 0x12);
        Made.tellOf(beside, 1, 0x12);
        Made.tellOf(beside, 3, 0xFF);
        beside.close();
        beside.finish(0);
        edges.due("tables that it does not hang on do not stay", 0x12, beside.kern(0, 1, 1, 2, 0));
        edges.due("none of them", NONE, beside.kern(0, 1, 1, 2, 1));
    }

    // ---- promise 30

    private void wantedDue(String what, KeptAnswers x, int a, int b, int table, int... want) {
        edges.due(what + ", how many", want.length, x.wanted(0, 0, a, b, table, NONE));
        for (int k = 0; k < want.length; k++) {
            edges.due(what + ", row " + k, want[k], x.wanted(0, 0, a, b, table, k));
        }
        for (int k : new int[] {want.length, -2, LEAST, MOST}) {
            edges.due(what + ", no row " + k, NONE, x.wanted(0, 0, a, b, table, k));
        }
    }

    private void wanted() {
        edges.sentence(30, "The k-th ROW of a TABLE that is WANTED for (a, b) (16 A and B);");
        for (int cell : CORNERS) {
            wantedDue("flip", Made.done("flip(t0)"), cell / 16, cell % 16, 0, cell % 16 * 16 + cell / 16);
        }
        KeptAnswers way = Made.done("loop(t0)", 0x01, 0x12);
        wantedDue("any to where one comes from", way, 2, 0, 0, 0x20);
        wantedDue("by 3 rows", way, 0, 0, 0, 0x00, 0x10, 0x20);
        edges.sentence(30,
            "WANTED for an ANSWER of 0 are ROWS of a TABLE of which one more would make it above 0.");
        KeptAnswers owed = new KeptAnswers();
        owed.change(0, 1, 1, -1);
        owed.change(0, 2, 2, -2);
        owed.close();
        Checks.ask(owed, "t0");
        wantedDue("an answer that is owed one: one makes it 0", owed, 1, 1, 0);
        wantedDue("owed two", owed, 2, 2, 0);
        wantedDue("0", owed, 3, 3, 0, 0x33);
        KeptAnswers less = new KeptAnswers();
        less.change(0, 1, 1, 3);
        less.change(1, 1, 1, 3);
        less.close();
        Checks.ask(less, "less(t0,t1)");
        less.finish(0);
        wantedDue("one more is enough", less, 1, 1, 0, 0x11);
        wantedDue("one more of what is taken off is not", less, 1, 1, 1);
        edges.sentence(30, "with k NONE: how many;");
        wantedDue("none of a table that it does not hang on", less, 1, 1, 2);
        edges.due("how many, of all rows", 256, wantedOfAll().wanted(0, 0, 0, 0, 0, NONE));
        edges.sentence(30, "NONE: there is no such one, it is not TOLD, or the ANSWER is above 0.");
        edges.due("the last of all rows", 255, wantedOfAll().wanted(0, 0, 0, 0, 0, 255));
        edges.due("behind it", NONE, wantedOfAll().wanted(0, 0, 0, 0, 0, 256));
        KeptAnswers above = Made.done("t0", 0x11);
        edges.due("above 0", NONE, above.wanted(0, 0, 1, 1, 0, 0));
        edges.due("above 0, how many", NONE, above.wanted(0, 0, 1, 1, 0, NONE));
        edges.due("above 0, of another table", NONE, above.wanted(0, 0, 1, 1, 1, NONE));
    }

    /** A question whose row 0, 0 is above 0 as soon as any row of table 0 is. */
    private static KeptAnswers wantedOfAll() {
        KeptAnswers x = new KeptAnswers();
        for (int a = 0; a < 16; a++) {
            x.change(1, 0, a, 1);
            x.change(1, a, 0, a == 0 ? 1 : 2);
        }
        x.close();
        Checks.ask(x, "join(join(t1,t0),t1)");
        x.finish(0);
        return x;
    }

    private void wantedMany() {
        edges.sentence(30,
            "WANTED for an ANSWER of 0 are ROWS of a TABLE of which one more would make it above 0.");
        KeptAnswers join = new KeptAnswers();
        join.change(0, 1, 0, 1);
        join.change(0, 1, 15, -1);
        join.change(0, 1, 7, 2);
        join.close();
        Checks.ask(join, "join(t0,t1)");
        join.finish(0);
        wantedDue("those that meet a row above 0", join, 1, 5, 1, 0x05, 0x75);
        wantedDue("none meets", join, 1, 5, 0);
        wantedDue("no row of that A", join, 2, 5, 1);
        KeptAnswers edition = Made.done("join(t0,t1)", 0x12);
        Made.tell(edition, 0x13);
        edition.close();
        edition.finish(0);
        wantedDue("as of 0", edition, 1, 5, 1, 0x25);
        edges.due("as of 1", 2, edition.wanted(0, 1, 1, 5, 1, NONE));
        edges.due("as of 1, the second", 0x35, edition.wanted(0, 1, 1, 5, 1, 1));
    }

    // ---- what these calls refuse

    private void refused() {
        edges.noSuchQuestion(26, (x, q) -> x.way(q, 1, 1, 1, 2, 0));
        edges.noSuchNode(26, (x, node) -> x.way(1, node, 1, 1, 2, 0));
        edges.noSuchSide(26, "IllegalArgumentException: A or B.",
            (x, side) -> x.way(0, 1, 1, side, 2, 0), (x, side) -> x.way(0, 1, 1, 1, side, 0));
        edges.noSuchQuestion(27, (x, q) -> x.without(q, 1, 1, 2, 0, 1, 2));
        edges.noSuchTable(27, "IndexOutOfBoundsException: the TABLE;", (x, t) -> x.without(0, 1, 1, 2, t, 1, 2));
        edges.noSuchSide(27, "IllegalArgumentException: one of a, b, x, y.",
            (x, side) -> x.without(0, 1, side, 2, 0, 1, 2), (x, side) -> x.without(0, 1, 1, side, 0, 1, 2),
            (x, side) -> x.without(0, 1, 1, 2, 0, side, 2), (x, side) -> x.without(0, 1, 1, 2, 0, 1, side));
        edges.noSuchQuestion(28, (x, q) -> x.needed(q, 1, 1, 2, 0));
        edges.noSuchTable(28, "IndexOutOfBoundsException: no such TABLE (so below)",
            (x, t) -> x.needed(0, 1, 1, 2, t));
        edges.noSuchSide(28, "IllegalArgumentException: A or B.",
            (x, side) -> x.needed(0, 1, side, 2, 0), (x, side) -> x.needed(0, 1, 1, side, 0));
        edges.noSuchQuestion(29, (x, q) -> x.kern(q, 1, 1, 2, 0));
        edges.noSuchSide(29, "IllegalArgumentException: A or B.",
            (x, side) -> x.kern(0, 1, side, 2, 0), (x, side) -> x.kern(0, 1, 1, side, 0));
        edges.noSuchQuestion(30, (x, q) -> x.wanted(q, 1, 1, 2, 0, 0));
        edges.noSuchTable(30, "IndexOutOfBoundsException: the TABLE;", (x, t) -> x.wanted(0, 1, 1, 2, t, 0));
        edges.noSuchSide(30, "IllegalArgumentException: A or B.",
            (x, side) -> x.wanted(0, 1, side, 2, 0, 0), (x, side) -> x.wanted(0, 1, 1, side, 0, 0));
    }

    /** What is tried must not stay, in this question or in another on the same shelves. */
    private void asking() {
        edges.sentence(26, "The k-th ROW of the WAY of a loop (16 A and B);");
        edges.leavesAll("asking leaves all as it was", 0x31, Made::busy, x -> x.way(0, 1, 2, 3, 2, 0));
        edges.sentence(27, "WITHOUT a ROW (x, y) of a TABLE: the ANSWER for (a, b);");
        edges.leavesAll("asking leaves all as it was", 0, Made::busy, x -> x.without(0, 2, 3, 2, 0, 1, 2));
        edges.sentence(28, "How many ROWS of a TABLE are NEEDED for (a, b);");
        edges.leavesAll("asking leaves all as it was", 2, Made::busy, x -> x.needed(0, 2, 3, 2, 0));
        edges.sentence(29, "The k-th ROW of the KERN for (a, b) (256 times the TABLE, 16 A and B);");
        edges.leavesAll("asking leaves all as it was", 0x31, Made::busy, x -> x.kern(0, 2, 3, 2, 1));
        edges.sentence(30, "with k NONE: how many;");
        edges.leavesAll("asking leaves all as it was", 1, Made::busy, x -> x.wanted(1, 2, 2, 1, 0, NONE));
        KeptAnswers x = Made.busy();
        int before = x.answer(1, 2, 3, 2);
        x.without(0, 2, 3, 2, 0, 1, 2);
        edges.due("nor in the shelf that another question has too", before, x.answer(1, 2, 3, 2));
        x.kern(0, 2, 3, 2, 0);
        edges.due("a second time", 1, x.without(0, 2, 3, 2, 0, 9, 9));
        edges.due("and of the other question", 1, x.without(1, 2, 3, 2, 0, 9, 9));
    }
}
