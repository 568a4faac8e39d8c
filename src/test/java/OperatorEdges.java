import java.util.Arrays;

/** The edges of what operators have, by the terms that promises 9, 17 and 18 lean on. */
final class OperatorEdges {
    private static final int LEAST = Edges.LEAST;
    private static final int MOST = Edges.MOST;

    /** What the least number, 2 to the 31st, is the product of: table 0 has 256, table 1 has 128. */
    private static final String LEAST_NUMBER = "join(join(t0,t0),join(t0,t1))";
    /** The least number less 1 of table 2 wraps to the greatest. */
    private static final String GREATEST_NUMBER = "less(" + LEAST_NUMBER + ",t2)";

    private final Edges edges;

    OperatorEdges(Edges edges) {
        this.edges = edges;
    }

    void all() {
        tablesAndFlip();
        one();
        count();
        countWraps();
        sum();
        least();
        middle();
        most();
        loop();
        loopEnds();
        join();
        joinWraps();
        addAndLess();
        both();
        where();
        answers();
    }

    /** Rows with their counts: table, A, B, count, and so on. */
    private static KeptAnswers with(String text, int... rows) {
        KeptAnswers x = new KeptAnswers();
        for (int i = 0; i + 3 < rows.length; i += 4) {
            Made.tellMany(x, rows[i], rows[i + 1], rows[i + 2], rows[i + 3]);
        }
        x.close();
        Checks.ask(x, text);
        x.finish(0);
        return x;
    }

    /** All that a question's whole has: A, B, count, and so on; every other row has 0. */
    private void allDue(String text, KeptAnswers x, int... want) {
        int[] due = new int[256];
        for (int i = 0; i + 2 < want.length; i += 3) {
            due[16 * want[i] + want[i + 1]] = want[i + 2];
        }
        int whole = x.nodes(0) - 1;
        for (int cell = 0; cell < 256; cell++) {
            edges.due(text + " at " + cell / 16 + ", " + cell % 16, due[cell],
                x.weight(0, whole, 0, cell / 16, cell % 16));
        }
    }

    private static int[] rows(int... numbers) {
        return numbers;
    }

    /** Rows that make the least number at 1, 1, and one of table 2 there. */
    private static int[] extreme() {
        return rows(0, 1, 1, 256, 1, 1, 1, 128, 2, 1, 1, 1);
    }

    private void tablesAndFlip() {
        edges.sentence(9, "t: the TABLE's.");
        int[] corners = rows(2, 0, 0, 1, 2, 0, 15, -2, 2, 15, 0, 3, 2, 15, 15, -4, 1, 3, 3, 3);
        allDue("t2", with("t2", corners), 0, 0, 1, 0, 15, -2, 15, 0, 3, 15, 15, -4);
        allDue("t3", with("t3", corners));
        edges.sentence(9, "flip: (A, B) what the operand has for (B, A).");
        allDue("flip", with("flip(t2)", corners), 0, 0, 1, 15, 0, -2, 0, 15, 3, 15, 15, -4);
        allDue("flip twice", with("flip(flip(t2))", corners), 0, 0, 1, 0, 15, -2, 15, 0, 3, 15, 15, -4);
    }

    private void one() {
        edges.sentence(9, "one: 1 where it is above 0, else 0.");
        allDue("one", with("one(t0)", 0, 0, 0, 1, 0, 0, 15, 2, 0, 15, 0, -1, 0, 15, 15, 100, 0, 7, 7, -9),
            0, 0, 1, 0, 15, 1, 15, 15, 1);
        allDue("one of the greatest", with("one(" + GREATEST_NUMBER + ")", extreme()), 1, 1, 1);
        allDue("one of the least", with("one(" + LEAST_NUMBER + ")", extreme()));
    }

    private void count() {
        edges.sentence(9,
            "count: for each A: n, what it has for all ROWS with that A together: (A, n, but 15 at most) "
            + "has 1, if n is above 0; all else 0.");
        allDue("count", with("count(t0)",
            0, 0, 0, 1, 0, 1, 15, 14, 0, 2, 3, 15, 0, 3, 4, 16, 0, 4, 0, 17, 0, 5, 5, -1, 0, 6, 1, 1, 0, 6, 2, -1,
            0, 7, 1, 9, 0, 7, 2, -8, 0, 8, 1, -9, 0, 8, 2, 8, 0, 15, 0, 7, 0, 15, 15, 7),
            0, 1, 1, 1, 14, 1, 2, 15, 1, 3, 15, 1, 4, 15, 1, 7, 1, 1, 15, 14, 1);
        KeptAnswers line = new KeptAnswers();
        for (int b = 0; b < 16; b++) {
            line.change(0, 0, b, 1);
            line.change(0, 15, b, b == 0 ? -1 : 1);
        }
        line.close();
        Checks.ask(line, "count(t0)");
        line.finish(0);
        allDue("count of whole lines", line, 0, 15, 1, 15, 14, 1);
    }

    private void countWraps() {
        edges.sentence(9,
            "Each operator has a COUNT for each ROW, by its operands' COUNTS (32 bits that wrap):");
        allDue("count of the greatest", with("count(" + GREATEST_NUMBER + ")", extreme()), 1, 15, 1);
        allDue("count of the least", with("count(" + LEAST_NUMBER + ")", extreme()));
        // each has 2 to the 30th: 2 of them together are below 0, 4 are 0, 5 are above 0
        for (int many = 1; many <= 5; many++) {
            int[] rows = Arrays.copyOf(rows(0, 1, 1, 256), 4 + 4 * many);
            for (int b = 0; b < many; b++) {
                System.arraycopy(rows(1, 1, b, 64), 0, rows, 4 + 4 * b, 4);
            }
            KeptAnswers x = with("count(" + LEAST_NUMBER + ")", rows);
            if (many == 1 || many == 5) {
                allDue("count of " + many, x, 1, 15, 1);
            } else {
                allDue("count of " + many, x);
            }
        }
    }

    private void sum() {
        edges.sentence(9,
            "sum: for each A: n, all B times what it has for (A, B) together: (A, what n leaves by 16, 0 "
            + "to 15) has 1, if it is above 0 for some ROW with that A; all else 0.");
        allDue("sum", with("sum(t0)",
            // 0; 15; 16; 30; below 0 with one above; none above; above and below; -16; -15
            0, 0, 0, 5, 0, 1, 15, 1, 0, 2, 8, 2, 0, 3, 15, 2, 0, 4, 3, -1, 0, 4, 0, 1, 0, 5, 3, -1,
            0, 6, 4, 2, 0, 6, 8, -1, 0, 7, 8, -2, 0, 7, 0, 1, 0, 8, 15, -1, 0, 8, 0, 3, 0, 15, 15, 100),
            0, 0, 1, 1, 15, 1, 2, 0, 1, 3, 14, 1, 4, 13, 1, 6, 0, 1, 7, 0, 1, 8, 1, 1, 15, 1500 % 16, 1);
        allDue("sum of the greatest", with("sum(" + GREATEST_NUMBER + ")", extreme()), 1, 15, 1);
        allDue("sum of the least", with("sum(" + LEAST_NUMBER + ")", extreme()));
    }

    /** Lines with one, two, three, four, fifteen and sixteen B above 0, and with none. */
    private static KeptAnswers lines(String text) {
        KeptAnswers x = new KeptAnswers();
        x.change(0, 0, 0, 1);
        x.change(0, 1, 15, 9);
        for (int b : rows(4, 9)) {
            x.change(0, 2, b, 1);
        }
        for (int b : rows(0, 1, 15)) {
            x.change(0, 3, b, 2);
        }
        for (int b : rows(2, 3, 5, 7)) {
            x.change(0, 4, b, 3);
        }
        for (int b = 0; b < 16; b++) {
            x.change(0, 5, b, b == 0 ? -1 : 1);
            x.change(0, 15, b, 1);
            x.change(0, 6, b, -1);
        }
        x.change(0, 7, 3, 1);
        x.change(0, 7, 3, -1);
        x.change(0, 8, 2, -1);
        x.change(0, 8, 3, 1);
        x.change(0, 8, 4, -1);
        x.close();
        Checks.ask(x, text);
        x.finish(0);
        return x;
    }

    private void least() {
        edges.sentence(9, "least, middle, most: for each A of all B for which it is above 0 the least");
        allDue("least", lines("least(t0)"),
            0, 0, 1, 1, 15, 1, 2, 4, 1, 3, 0, 1, 4, 2, 1, 5, 1, 1, 8, 3, 1, 15, 0, 1);
    }

    private void middle() {
        edges.sentence(9,
            "(the middle one, of an even number the lesser of both; the greatest) has 1 (if there is "
            + "one); all else 0.");
        allDue("middle", lines("middle(t0)"),
            0, 0, 1, 1, 15, 1, 2, 4, 1, 3, 1, 1, 4, 3, 1, 5, 8, 1, 8, 3, 1, 15, 7, 1);
    }

    private void most() {
        edges.sentence(9, "the greatest) has 1 (if there is one); all else 0.");
        allDue("most", lines("most(t0)"),
            0, 0, 1, 1, 15, 1, 2, 9, 1, 3, 15, 1, 4, 7, 1, 5, 15, 1, 8, 3, 1, 15, 15, 1);
    }

    private void loop() {
        edges.sentence(9,
            "loop: (A, B) has 1, if one comes from A to B by one or more ROWS for which it is above 0, "
            + "each beginning where the one ahead ends; else 0.");
        int[] chain = new int[60];
        for (int i = 0; i < 15; i++) {
            System.arraycopy(rows(0, i, i + 1, 1 + i), 0, chain, 4 * i, 4);
        }
        int[] below = new int[3 * 120];
        int at = 0;
        for (int a = 0; a < 16; a++) {
            for (int b = a + 1; b < 16; b++) {
                System.arraycopy(rows(a, b, 1), 0, below, at, 3);
                at += 3;
            }
        }
        allDue("a chain of 15 rows", with("loop(t0)", chain), below);
        int[] back = new int[60];
        for (int i = 0; i < 15; i++) {
            System.arraycopy(rows(0, i + 1, i, 1), 0, back, 4 * i, 4);
        }
        int[] above = below.clone();
        for (int i = 0; i + 2 < above.length; i += 3) {
            above[i] = below[i + 1];
            above[i + 1] = below[i];
        }
        allDue("a chain back", with("loop(t0)", back), above);
    }

    private void loopEnds() {
        edges.sentence(9,
            "by one or more ROWS for which it is above 0, each beginning where the one ahead ends; else "
            + "0.");
        allDue("no row", with("loop(t0)"));
        allDue("a row from 0 to 0", with("loop(t0)", 0, 0, 0, 1), 0, 0, 1);
        allDue("a row from 15 to 15", with("loop(t0)", 0, 15, 15, 9), 15, 15, 1);
        allDue("there and back", with("loop(t0)", 0, 0, 15, 1, 0, 15, 0, 1), 0, 0, 1, 0, 15, 1, 15, 0, 1, 15, 15, 1);
        allDue("an owed row", with("loop(t0)", 0, 1, 2, 1, 0, 2, 3, -1, 0, 3, 4, 1), 1, 2, 1, 3, 4, 1);
        allDue("two rows that do not meet", with("loop(t0)", 0, 1, 2, 1, 0, 3, 2, 1), 1, 2, 1, 3, 2, 1);
        KeptAnswers ring = new KeptAnswers();
        for (int a = 0; a < 16; a++) {
            ring.change(0, a, (a + 7) % 16, 1);
        }
        ring.close();
        Checks.ask(ring, "loop(t0)");
        ring.finish(0);
        edges.due("a ring of 16 rows", 256, ring.size(0, 0));
        allDue("a loop of the least and the greatest", with("loop(" + LEAST_NUMBER + ")", extreme()));
        allDue("of the greatest", with("loop(" + GREATEST_NUMBER + ")", extreme()), 1, 1, 1);
    }

    private void join() {
        edges.sentence(9, "join: (A, C): for all B the first's (A, B) times the second's (B, C) together.");
        allDue("by 0 and by 15", with("join(t0,t1)",
            0, 0, 0, 2, 0, 0, 15, 3, 1, 0, 15, 5, 1, 15, 15, 7, 1, 15, 0, -1),
            0, 15, 2 * 5 + 3 * 7, 0, 0, -3);
        allDue("owed times owed", with("join(t0,t1)", 0, 15, 1, -2, 1, 1, 0, -3), 15, 0, 6);
        allDue("owed one", with("join(t0,t1)", 0, 15, 1, -1, 1, 1, 0, 4), 15, 0, -4);
        allDue("together 0", with("join(t0,t1)", 0, 1, 2, 3, 0, 1, 3, -3, 1, 2, 4, 1, 1, 3, 4, 1));
        allDue("with none", with("join(t0,t1)", 0, 1, 2, 3));
        allDue("they do not meet", with("join(t0,t1)", 0, 1, 2, 3, 1, 1, 2, 3));
        allDue("in order", with("join(t1,t0)", 0, 1, 2, 3, 1, 2, 3, 3));
        allDue("with itself", with("join(t0,t0)", 0, 1, 2, 3, 0, 2, 1, 5), 1, 1, 15, 2, 2, 15);
    }

    private void joinWraps() {
        edges.sentence(9, "by its operands' COUNTS (32 bits that wrap):");
        allDue("2 to the 31st", with(LEAST_NUMBER, extreme()), 1, 1, LEAST);
        allDue("2 to the 31st less", with(LEAST_NUMBER, 0, 1, 1, 256, 1, 1, 1, -128), 1, 1, LEAST);
        allDue("2 to the 32nd", with("join(join(t0,t0),join(t0,t0))", 0, 1, 1, 256));
        allDue("216 to the fourth", with("join(join(t0,t0),join(t0,t0))", 0, 1, 1, 216),
            1, 1, 216 * 216 * 216 * 216);
        allDue("twice 2 to the 30th", with(LEAST_NUMBER, 0, 1, 1, 256, 1, 1, 2, 64, 0, 1, 2, 1, 1, 2, 2, 64),
            1, 2, 256 * 256 * 256 * 64 + 256 * 256 * 64);
    }

    private void addAndLess() {
        edges.sentence(9, "add, less: the first's and (less) the second's.");
        int[] some = rows(0, 0, 0, 1, 0, 15, 15, 2, 0, 1, 2, -3, 1, 0, 0, 4, 1, 1, 2, 3, 1, 2, 1, -5);
        allDue("add", with("add(t0,t1)", some), 0, 0, 5, 15, 15, 2, 2, 1, -5);
        allDue("less", with("less(t0,t1)", some), 0, 0, -3, 15, 15, 2, 1, 2, -6, 2, 1, 5);
        allDue("less itself", with("less(t0,t0)", some));
        allDue("the least less 1", with(GREATEST_NUMBER, extreme()), 1, 1, MOST);
        allDue("the greatest and 1", with("add(" + GREATEST_NUMBER + ",t2)", extreme()), 1, 1, LEAST);
        allDue("0 less the least", with("less(t3," + LEAST_NUMBER + ")", extreme()), 1, 1, LEAST);
    }

    private void both() {
        edges.sentence(9, "both: the lesser of both.");
        int[] some = rows(0, 0, 0, 1, 1, 0, 0, 2, 0, 15, 15, 2, 1, 15, 15, 1, 0, 1, 2, -3, 1, 2, 1, -5,
            0, 3, 3, 4, 1, 3, 3, 4, 0, 4, 4, 7, 1, 5, 5, 7, 0, 6, 6, -1, 1, 6, 6, -2);
        int[] want = rows(0, 0, 1, 15, 15, 1, 1, 2, -3, 2, 1, -5, 3, 3, 4, 6, 6, -2);
        allDue("both", with("both(t0,t1)", some), want);
        allDue("the other way", with("both(t1,t0)", some), want);
        allDue("with the least", with("both(" + LEAST_NUMBER + ",t2)", extreme()), 1, 1, LEAST);
        allDue("with the greatest", with("both(" + GREATEST_NUMBER + ",t2)", extreme()), 1, 1, 1);
    }

    private void where() {
        edges.sentence(9, "where: as it has, where C holds for A (a) and B (b); else 0.");
        int[] some = rows(0, 0, 0, 1, 0, 0, 15, 2, 0, 15, 0, -3, 0, 15, 15, 4);
        allDue("a", with("where(t0:a=0)", some), 0, 0, 1, 0, 15, 2);
        allDue("b", with("where(t0:b=0)", some), 0, 0, 1, 15, 0, -3);
        allDue("a and b", with("where(t0:a>b)", some), 15, 0, -3);
        allDue("all", with("where(t0:0=0)", some), 0, 0, 1, 0, 15, 2, 15, 0, -3, 15, 15, 4);
        allDue("none", with("where(t0:0=1)", some));
        allDue("what it has 0 of", with("where(t0:a=7)", some));
        allDue("within another", with("where(where(t0:b=15):a=15)", some), 15, 15, 4);
        allDue("of the least", with("where(" + LEAST_NUMBER + ":a=1 and b=1)", extreme()), 1, 1, LEAST);
    }

    private void answers() {
        edges.sentence(18, "ANSWER of a QUESTION: the COUNT of its last NODE, but 0 if it is below 0.");
        edges.due("the least", 0, with(LEAST_NUMBER, extreme()).answer(0, 0, 1, 1));
        edges.due("the greatest", MOST, with(GREATEST_NUMBER, extreme()).answer(0, 0, 1, 1));
        edges.due("-1", 0, with("t0", 0, 1, 1, -1).answer(0, 0, 1, 1));
        edges.due("0", 0, with("t0").answer(0, 0, 1, 1));
        edges.due("1", 1, with("t0", 0, 1, 1, 1).answer(0, 0, 1, 1));
        edges.due("its last node, not the first", 0, with("less(t0,t1)", 0, 1, 1, 1, 1, 1, 1, 1).answer(0, 0, 1, 1));
        edges.sentence(17, "COUNT of a NODE for a ROW as of an EDITION;");
        KeptAnswers x = with(LEAST_NUMBER, extreme());
        edges.due("the least", LEAST, x.weight(0, 6, 0, 1, 1));
        edges.due("below it", 1 << 16, x.weight(0, 2, 0, 1, 1));
        edges.due("the second operand", 1 << 15, x.weight(0, 5, 0, 1, 1));
        edges.due("a table", 128, x.weight(0, 4, 0, 1, 1));
        edges.due("below 0", -1, with("t0", 0, 15, 15, -1).weight(0, 0, 0, 15, 15));
    }
}
