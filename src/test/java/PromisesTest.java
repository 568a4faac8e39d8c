/** Each promise of the document: ordinary inputs, the edges that it names, and wrong inputs. */
public final class PromisesTest {
    private static final int NONE = KeptAnswers.NONE;
    private static final int VOID = KeptAnswers.VOID;
    private static final int LEAST = Integer.MIN_VALUE;
    private static final int MOST = Integer.MAX_VALUE;

    private static Checks check;

    public static void main(String[] args) {
        check = new Checks("PromisesTest");
        promise1();
        promise2();
        promise3();
        promise4();
        promise5();
        promise6();
        promise7();
        promise8();
        promise9();
        promise10();
        promise11();
        promise12();
        promise13();
        promise14();
        promise15();
        promise16();
        promise17();
        promise18();
        promise19();
        promise20();
        promise21();
        promise22();
        promise23();
        promise24();
        promise25();
        promise26();
        promise27();
        promise28();
        promise29();
        promise30();
        promise31();
        promise32();
        promise33();
        promise34();
        promise35();
        promise36();
        promise37();
        promise38();
        corners();
        check.end();
    }

    private static void due(String what, long want, long got) {
        check.due(what, want, got);
    }

    private static void thrown(String what, Class<?> want, java.util.concurrent.Callable<Integer> call) {
        check.thrown(what, want, call);
    }

    private static int ask(KeptAnswers x, String text) {
        return Checks.ask(x, text);
    }

    /** Tells changes of table 0, one more of each row given as 16 A and B. */
    private static void rows(KeptAnswers x, int... cells) {
        for (int cell : cells) {
            x.change(0, cell / 16, cell % 16, 1);
        }
    }

    /** Asks a text of a new edition that is closed, and works it. */
    private static KeptAnswers done(String text, int... cells) {
        KeptAnswers x = new KeptAnswers();
        rows(x, cells);
        x.close();
        ask(x, text);
        x.finish(0);
        return x;
    }

    private static void promise1() {
        KeptAnswers x = new KeptAnswers();
        for (int what = 0; what <= 8; what++) {
            due("1: count " + what, 0, x.count(what));
        }
        due("1: fault", NONE, x.fault());
        due("1: room", 0, x.room(0));
        due("1: rows as of the open edition", 0, x.rows(3, 15, 15, 0));
        thrown("1: rows of edition 1", Checks.ARGUMENT, () -> x.rows(0, 0, 0, 1));
        thrown("1: no question", Checks.ELEMENT, () -> x.nodes(0));
        due("1: the first edition closed is 0", 1, x.close());
        due("1: NONE", -1, KeptAnswers.NONE);
        due("1: VOID", LEAST, KeptAnswers.VOID);
    }

    private static void promise2() {
        KeptAnswers x = new KeptAnswers();
        due("2: the first", 1, x.change(0, 0, 0, 1));
        due("2: another", 2, x.change(3, 15, 15, -9));
        due("2: the same row", 3, x.change(0, 0, 0, 9));
        due("2: together", 10, x.rows(0, 0, 0, 0));
        due("2: owed", -9, x.rows(3, 15, 15, 0));
        for (int table : new int[] {-1, 4, LEAST, MOST}) {
            thrown("2: table " + table, Checks.INDEX, () -> x.change(table, 0, 0, 1));
            thrown("2: table and row", Checks.INDEX, () -> x.change(table, 16, 0, 0));
        }
        for (int side : new int[] {-1, 16, LEAST, MOST}) {
            thrown("2: a " + side, Checks.ARGUMENT, () -> x.change(0, side, 0, 1));
            thrown("2: b " + side, Checks.ARGUMENT, () -> x.change(0, 0, side, 1));
        }
        for (int more : new int[] {0, 10, -10, LEAST, MOST}) {
            thrown("2: more " + more, Checks.ARGUMENT, () -> x.change(0, 0, 0, more));
        }
        due("2: what was thrown is not told", 4, x.change(1, 2, 3, -1));
        KeptAnswers full = new KeptAnswers();
        for (int i = 1; i <= 400; i++) {
            due("2: the " + i + "th", i, full.change(2, 3, 4, 9));
        }
        due("2: 401", -1, full.change(2, 3, 4, 9));
        due("2: 400 together", 3600, full.rows(2, 3, 4, 0));
        thrown("2: a wrong one behind 400", Checks.ARGUMENT, () -> full.change(2, 3, 4, 0));
        due("2: one back", 1, full.back());
        due("2: then one more", 400, full.change(2, 3, 4, -9));
    }

    private static void promise3() {
        KeptAnswers x = new KeptAnswers();
        thrown("3: the open edition", Checks.ARGUMENT, () -> x.late(0, 1, 2, 3, 0));
        x.close();
        x.close();
        x.close();
        due("3: no room", 0, x.late(0, 1, 2, 3, 2));
        due("3: nothing told", 0, x.count(1));
        x.room(2);
        due("3: two ahead", 1, x.late(0, 1, 2, 3, 1));
        due("3: one ahead", 1, x.late(0, 1, 2, 3, 2));
        due("3: three ahead", 0, x.late(0, 1, 2, 3, 0));
        due("3: two are told", 2, x.count(1));
        due("3: they are of the open edition", 6, x.rows(0, 1, 2, 3));
        due("3: not of that told for", 0, x.rows(0, 1, 2, 2));
        thrown("3: open", Checks.ARGUMENT, () -> x.late(0, 1, 2, 3, 3));
        thrown("3: below 0", Checks.ARGUMENT, () -> x.late(0, 1, 2, 3, -1));
        thrown("3: far", Checks.ARGUMENT, () -> x.late(0, 1, 2, 3, LEAST));
        thrown("3: table", Checks.INDEX, () -> x.late(4, 16, 2, 3, 9));
        thrown("3: a", Checks.ARGUMENT, () -> x.late(0, 16, 2, 3, 2));
        thrown("3: b", Checks.ARGUMENT, () -> x.late(0, 1, -1, 3, 2));
        thrown("3: more", Checks.ARGUMENT, () -> x.late(0, 1, 2, 0, 2));
        thrown("3: more", Checks.ARGUMENT, () -> x.late(0, 1, 2, 10, 2));
        for (int i = x.count(1); i < 400; i++) {
            x.change(1, 1, 1, 1);
        }
        due("3: 400 were told", -1, x.late(0, 1, 2, 3, 2));
        due("3: too late, and 400 were told", 0, x.late(0, 1, 2, 3, 0));
    }

    private static void promise4() {
        KeptAnswers x = new KeptAnswers();
        due("4: at first", 0, x.room(10));
        due("4: was 10", 10, x.room(3));
        thrown("4: 11", Checks.ARGUMENT, () -> x.room(11));
        thrown("4: -1", Checks.ARGUMENT, () -> x.room(-1));
        due("4: still 3", 3, x.room(0));
    }

    private static void promise5() {
        KeptAnswers x = new KeptAnswers();
        due("5: none", 0, x.drop());
        rows(x, 1, 2);
        x.close();
        due("5: closed ones stay", 0, x.drop());
        rows(x, 1, 3, 4);
        x.room(1);
        x.late(0, 0, 1, 1, 0);
        due("5: four", 4, x.drop());
        due("5: counts as before", 1, x.rows(0, 0, 1, 1));
        due("5: told", 2, x.count(1));
        due("5: numbers are used again", 3, x.change(0, 5, 5, 1));
    }

    private static void promise6() {
        KeptAnswers x = new KeptAnswers();
        for (int i = 1; i <= 100; i++) {
            due("6: closed " + i, i, x.close());
        }
        thrown("6: 100 are closed", Checks.STATE, x::close);
        due("6: still 100", 100, x.count(0));
        due("6: changes go on", 1, x.change(0, 1, 1, 1));
        due("6: of edition 100", 100, x.told(0, 4));
        due("6: as of 100", 1, x.rows(0, 1, 1, 100));
        due("6: as of 99", 0, x.rows(0, 1, 1, 99));
    }

    private static void promise7() {
        KeptAnswers x = new KeptAnswers();
        x.change(2, 4, 5, 3);
        x.close();
        x.change(2, 4, 5, -4);
        x.change(2, 5, 4, 7);
        x.change(1, 4, 5, 8);
        due("7: edition 0", 3, x.rows(2, 4, 5, 0));
        due("7: the open one", -1, x.rows(2, 4, 5, 1));
        due("7: another table", 8, x.rows(1, 4, 5, 1));
        thrown("7: table", Checks.INDEX, () -> x.rows(-1, 4, 5, 9));
        thrown("7: a", Checks.ARGUMENT, () -> x.rows(2, 16, 5, 0));
        thrown("7: b", Checks.ARGUMENT, () -> x.rows(2, 4, -1, 0));
        thrown("7: behind the open one", Checks.ARGUMENT, () -> x.rows(2, 4, 5, 2));
        thrown("7: below 0", Checks.ARGUMENT, () -> x.rows(2, 4, 5, -1));
    }

    private static void promise8() {
        KeptAnswers x = new KeptAnswers();
        for (int i = 1; i <= 10; i++) {
            due("8: feed " + i, 20 * i, x.feed(0x20202020, 0x20202020, 0x20202020, 0x20202020, 0x20207430));
        }
        due("8: too many", NONE, x.feed(0, 0, 0, 0, 0));
        due("8: nothing done", 200, x.count(8));
        // blanks, then t0, then blanks: the second t cannot stand there
        due("8: the highest byte first", -9, x.question(40));
        due("8: its place", 38, x.fault());
        due("8: the tape is empty", 0, x.count(8));
        x.feed(0x74332020, -1, -1, -1, -1);
        due("8: t3 and blanks", 0, x.question(4));
        x.feed(0xFF000000, 0, 0, 0, 0);
        due("8: a high byte", -9, x.question(1));
    }

    private static void faultDue(String text, int kind, int place) {
        KeptAnswers x = new KeptAnswers();
        due("9: " + text, kind == 0 ? 0 : kind - 10, ask(x, text));
        due("10: " + text, kind == 0 ? NONE : place, x.fault());
        due("9: questions of " + text, kind == 0 ? 1 : 0, x.count(4));
        due("9: shelves of " + text, kind == 0 ? 1 : 0, Math.min(1, x.count(5)));
    }

    private static void promise9() {
        for (String text : new String[] {"t0", "t1", "t2", " t3 ", "flip(t0)", "one(t0)", "count(t0)",
            "sum(t0)", "least(t0)", "middle(t0)", "most(t0)", "loop(t0)", "join(t0,t1)",
            "add ( t0 , t1 )", "less(t0,t1)", "both(t0,t1)", "where(t0:a<b)",
            "where ( t0 : a < 15 or b > 0 and not 3 = a )", "where(t0:[a<b])", "where(t0:a<3or b=1)",
            "where(t0:a=00000000000000000015)", "where(t0:not[not[not[a<b]]])",
            "where(t0:[a<1]and[[[[[[a<b]]]]]])", "where(t0:not not not not not not a<1 and not b<1)",
            "join(join(t0,join(t0,t0)),join(t0,join(t0,t0)))"}) {
            faultDue(text, 0, 0);
        }
        KeptAnswers x = new KeptAnswers();
        Checks.feed(x, "t0");
        thrown("9: n of 21", Checks.ARGUMENT, () -> x.question(21));
        thrown("9: n of -1", Checks.ARGUMENT, () -> x.question(-1));
        due("9: the tape stays", 20, x.count(8));
        for (int i = 0; i < 6; i++) {
            due("9: question " + i, i, ask(x, "t0"));
        }
        x.leave(0);
        Checks.feed(x, "t0");
        due("9: there are 6", -1, x.question(2));
        due("9: the tape is empty", 0, x.count(8));
        due("10: no fault", NONE, x.fault());
        due("9: none of 0 bytes", -1, x.question(0));
        promise9Operators();
    }

    /** What each operator has; table 0 has the rows given with their counts. */
    private static void operatorDue(String text, int[] counts, int... want) {
        KeptAnswers x = new KeptAnswers();
        for (int i = 0; i + 3 < counts.length; i += 4) {
            for (int left = counts[i + 3]; left != 0; left -= Math.max(-9, Math.min(9, left))) {
                x.change(counts[i], counts[i + 1], counts[i + 2], Math.max(-9, Math.min(9, left)));
            }
        }
        x.close();
        ask(x, text);
        x.finish(0);
        int others = 0;
        for (int i = 0; i + 2 < want.length; i += 3) {
            due("9: " + text + " at " + want[i] + ", " + want[i + 1], want[i + 2],
                x.weight(0, x.nodes(0) - 1, 0, want[i], want[i + 1]));
            others++;
        }
        due("9: " + text + ": other rows are 0", others, x.changed(0, x.nodes(0) - 1, 0));
    }

    private static void promise9Operators() {
        int[] some = {0, 1, 2, 5, 0, 1, 3, -2, 0, 2, 1, 1, 1, 2, 1, 4, 1, 1, 2, -7, 1, 3, 3, 2};
        operatorDue("t0", some, 1, 2, 5, 1, 3, -2, 2, 1, 1);
        operatorDue("t2", some);
        operatorDue("flip(t0)", some, 2, 1, 5, 3, 1, -2, 1, 2, 1);
        operatorDue("one(t0)", some, 1, 2, 1, 2, 1, 1);
        operatorDue("add(t0,t1)", some, 1, 2, -2, 1, 3, -2, 2, 1, 5, 3, 3, 2);
        operatorDue("less(t0,t1)", some, 1, 2, 12, 1, 3, -2, 2, 1, -3, 3, 3, -2);
        operatorDue("both(t0,t1)", some, 1, 2, -7, 1, 3, -2, 2, 1, 1);
        operatorDue("join(t0,t1)", some, 1, 1, 20, 1, 3, -4, 2, 2, -7);
        operatorDue("where(t0:b>2)", some, 1, 3, -2);
        operatorDue("where(t0:a<2 and b<3 or a=2)", some, 1, 2, 5, 2, 1, 1);
        operatorDue("where(t0:a<2 and[b<3 or a=2])", some, 1, 2, 5);
        operatorDue("where(t0:not a<2 and b<3)", some, 2, 1, 1);
        operatorDue("where(t0:not[a<2 and b<3])", some, 1, 3, -2, 2, 1, 1);
        operatorDue("where(t0:3=b or 1>b)", some, 1, 3, -2);
        operatorDue("where(t0:1<0)", some);
        operatorDue("count(t0)", some, 1, 3, 1, 2, 1, 1);
        operatorDue("count(t0)", new int[] {0, 1, 0, 9, 0, 1, 1, 9, 0, 2, 2, 9, 0, 2, 3, 6, 0, 3, 0, 1,
            0, 3, 1, -1, 0, 4, 0, -1, 0, 5, 7, 14}, 1, 15, 1, 2, 15, 1, 5, 14, 1);
        operatorDue("sum(t0)", some, 1, 4, 1, 2, 1, 1);
        operatorDue("sum(t0)", new int[] {0, 0, 5, 7, 0, 1, 0, 3, 0, 2, 3, -1, 0, 3, 3, -1, 0, 3, 1, 1},
            0, 3, 1, 1, 0, 1, 3, 14, 1);
        int[] many = {0, 1, 3, 1, 0, 1, 9, 2, 0, 1, 4, 1, 0, 1, 15, 1, 0, 1, 0, -1, 0, 2, 7, 1, 0, 3, 7, -1,
            0, 4, 2, 1, 0, 4, 8, 1, 0, 4, 5, 1};
        operatorDue("least(t0)", many, 1, 3, 1, 2, 7, 1, 4, 2, 1);
        operatorDue("middle(t0)", many, 1, 4, 1, 2, 7, 1, 4, 5, 1);
        operatorDue("most(t0)", many, 1, 15, 1, 2, 7, 1, 4, 8, 1);
        operatorDue("loop(t0)", new int[] {0, 1, 2, 5, 0, 2, 3, 1, 0, 3, 1, 2, 0, 4, 4, 1, 0, 5, 6, -1,
            0, 6, 5, 1}, 1, 1, 1, 1, 2, 1, 1, 3, 1, 2, 1, 1, 2, 2, 1, 2, 3, 1, 3, 1, 1, 3, 2, 1, 3, 3, 1,
            4, 4, 1, 6, 5, 1);
        // 32 bits wrap: 4096 to the third is 0, and 32768 times 65536 is the least number
        String square = "join(t0,t0)";
        operatorDue(square, new int[] {0, 1, 1, 256}, 1, 1, 65536);
        operatorDue("join(join(t0,t0),join(t0,t0))", new int[] {0, 1, 1, 256});
        operatorDue("join(join(t0,t0),join(t0,t1))", new int[] {0, 1, 1, 256, 1, 1, 1, 128}, 1, 1, LEAST);
    }

    private static void promise10() {
        Object[][] faults = {
            {"", 1, 0}, {"   ", 1, 3}, {"t", 1, 1}, {"t ", 1, 1}, {"t 0", 1, 1}, {"t(", 1, 1},
            {"t4", 2, 0}, {" t9", 2, 1}, {"t00", 2, 0}, {"t12", 2, 0}, {"t0a", 1, 2}, {"tt0", 1, 0},
            {"T0", 1, 0}, {"t0 t1", 1, 3}, {"x", 1, 0}, {"flip", 1, 4}, {"flip ", 1, 5},
            {"flip(", 1, 5}, {"flip()", 1, 5}, {"flip(t0", 1, 7}, {"flip(t0,t1)", 1, 7},
            {"flip(t0))", 1, 8}, {"flipt0", 1, 0}, {"flip(t4)", 2, 5}, {"flip3(t0)", 1, 4},
            {"join(t0)", 1, 7}, {"join(t0,)", 1, 8}, {"join(t0,t1,t2)", 1, 10}, {"join(,t0)", 1, 5},
            {"where(t0)", 1, 8}, {"where(t0:)", 1, 9}, {"where(t0:a)", 1, 10}, {"where(t0:a<)", 1, 11},
            {"where(t0:a<b", 1, 12}, {"where(t0:ab<1)", 1, 9}, {"where(t0:a<16)", 2, 11},
            {"where(t0:99<a)", 2, 9}, {"where(t0:a<4294967297)", 2, 11}, {"where(t0:a<1 2)", 1, 13},
            {"where(t0:a<b or)", 1, 15}, {"where(t0:a<b and)", 1, 16}, {"where(t0:a<b nor a<b)", 1, 13},
            {"where(t0:a<bor a<b)", 1, 11}, {"where(t0:not)", 1, 12}, {"where(t0:nota<b)", 1, 9},
            {"where(t0:[a<b)", 1, 13}, {"where(t0:a<b])", 1, 12}, {"where(t0:[]", 1, 10},
            {"where(t0:a<not b)", 1, 11}, {"where(t0:a<[b])", 1, 11}, {"where(t0:a<=b)", 1, 11},
            {"where(t0:t0)", 1, 9}, {"where(t0:a==b)", 1, 11}, {"where(t0,a<b)", 1, 8},
            {"where(t0:[[[[[[[a<b", 3, 15}, {"where(t0:[not[not[not[a<b", 3, 21},
            {"where(t0:not not not not not not not a<b)", 3, 33},
            {"where(t0:[[[[[[a<b]]]]] or [[a<b", 1, 32},
            {"where(t0:[[[[[[a<b]] or [[[a<b", 3, 26},
            {"where(t0:[[[[[[a[", 1, 16},
            {"one(one(one(one(one(one(one(one(one(one(one(one(t0", 3, 48},
            {"one(one(one(one(one(one(one(one(one(one(one(one(one(", 3, 48},
            {"one(one(one(one(one(one(one(one(one(one(one(one(t", 3, 48},
            {"one(one(one(one(one(one(one(one(one(one(one(one(t4", 2, 48},
            {"one(one(one(one(one(one(one(one(one(one(one(one(x", 1, 48},
            {"one(one(one(one(one(one(one(one(one(one(one(one(", 1, 48},
            {"one(one(one(one(one(one(one(one(one(one(one(one 9", 1, 48},
        };
        for (Object[] fault : faults) {
            faultDue((String) fault[0], (Integer) fault[1], (Integer) fault[2]);
        }
        KeptAnswers x = new KeptAnswers();
        due("10: a fault", -9, ask(x, "t0("));
        thrown("10: not so many bytes", Checks.ARGUMENT, () -> x.question(1));
        due("10: the fault stays", 2, x.fault());
        due("10: no fault", 0, ask(x, "t0"));
        due("10: none without", NONE, x.fault());
    }

    private static void promise11() {
        KeptAnswers x = new KeptAnswers();
        ask(x, "flip(t0)");
        ask(x, "join(flip(t0),loop(t1))");
        ask(x, "join(flip(t0),flip(t0))");
        due("11: shelves", 6, x.count(5));
        due("11: all below are in question 1 too", 0, x.leave(0));
        due("11: its nodes are others' too", 6, x.count(5));
        due("11: t1, loop, join", 3, x.leave(1));
        due("11: t0, flip, join", 3, x.leave(2));
        due("11: none are", 0, x.count(5));
        thrown("11: it was left", Checks.ELEMENT, () -> x.leave(1));
        thrown("11: -1", Checks.ELEMENT, () -> x.leave(-1));
        thrown("11: no such one", Checks.ELEMENT, () -> x.leave(3));
        due("11: numbers stay", 3, ask(x, "flip(t0)"));
        due("11: a new shelf", 6, x.shelf(3, 0));
        due("11: a new shelf", 7, x.shelf(3, 1));
        for (int q : new int[] {0, 6, LEAST, MOST}) {
            thrown("11: all calls of a left one", Checks.ELEMENT, () -> x.nodes(q));
            thrown("11: shelf", Checks.ELEMENT, () -> x.shelf(q, 99));
            thrown("11: front", Checks.ELEMENT, () -> x.front(q, 99));
            thrown("11: work", Checks.ELEMENT, () -> x.work(q, 99));
            thrown("11: finish", Checks.ELEMENT, () -> x.finish(q));
            thrown("11: weight", Checks.ELEMENT, () -> x.weight(q, 99, 0, 99, 0));
            thrown("11: answer", Checks.ELEMENT, () -> x.answer(q, 0, 99, 0));
            thrown("11: size", Checks.ELEMENT, () -> x.size(q, 0));
            thrown("11: row", Checks.ELEMENT, () -> x.row(q, 0, 0));
            thrown("11: changed", Checks.ELEMENT, () -> x.changed(q, 99, 0));
            thrown("11: since", Checks.ELEMENT, () -> x.since(q, 99, 0, 0));
            thrown("11: way", Checks.ELEMENT, () -> x.way(q, 99, 0, 99, 0, 0));
            thrown("11: without", Checks.ELEMENT, () -> x.without(q, 0, 99, 0, 99, 0, 0));
            thrown("11: needed", Checks.ELEMENT, () -> x.needed(q, 0, 99, 0, 99));
            thrown("11: kern", Checks.ELEMENT, () -> x.kern(q, 0, 99, 0, 0));
            thrown("11: wanted", Checks.ELEMENT, () -> x.wanted(q, 0, 99, 0, 99, 0));
            thrown("11: when", Checks.ELEMENT, () -> x.when(q, 99, 0, 0));
            thrown("11: unlike", Checks.ELEMENT, () -> x.unlike(q, 3, 0));
            thrown("11: unlike", Checks.ELEMENT, () -> x.unlike(3, q, 0));
            thrown("11: digest", Checks.ELEMENT, () -> x.digest(q, 99, 0));
            thrown("11: ready", Checks.ELEMENT, () -> x.ready(q, 0));
            thrown("11: lacks", Checks.ELEMENT, () -> x.lacks(q, 0));
        }
    }

    private static void promise12() {
        KeptAnswers x = new KeptAnswers();
        ask(x, "t3");
        ask(x, "join(t0,add(flip(t0),t1))");
        due("12: a table", 1, x.nodes(0));
        due("12: six", 6, x.nodes(1));
        thrown("12: none", Checks.ELEMENT, () -> x.nodes(2));
    }

    private static void shelvesDue(String one, String two, boolean same) {
        KeptAnswers x = new KeptAnswers();
        ask(x, one);
        ask(x, two);
        boolean are = x.shelf(0, x.nodes(0) - 1) == x.shelf(1, x.nodes(1) - 1);
        due("13: " + one + " and " + two, same ? 1 : 0, are ? 1 : 0);
    }

    private static void promise13() {
        KeptAnswers x = new KeptAnswers();
        ask(x, "join(t1,add(flip(t0),t1))");
        int[] first = {0, 1, 2, 0, 3, 4};
        for (int i = 0; i < first.length; i++) {
            due("13: node " + i, first[i], x.shelf(0, i));
        }
        ask(x, "add(t0,flip(t0))");
        int[] second = {1, 1, 2, 5};
        for (int i = 0; i < second.length; i++) {
            due("13: node " + i, second[i], x.shelf(1, i));
        }
        for (int node : new int[] {-1, 4, LEAST, MOST}) {
            thrown("13: node", Checks.INDEX, () -> x.shelf(1, node));
            thrown("13: front", Checks.INDEX, () -> x.front(1, node));
            thrown("13: work", Checks.INDEX, () -> x.work(1, node));
            thrown("13: weight", Checks.INDEX, () -> x.weight(1, node, 0, 99, 0));
            thrown("13: changed", Checks.INDEX, () -> x.changed(1, node, 0));
            thrown("13: since", Checks.INDEX, () -> x.since(1, node, 0, 0));
            thrown("13: way", Checks.INDEX, () -> x.way(1, node, 0, 99, 0, 0));
            thrown("13: digest", Checks.INDEX, () -> x.digest(1, node, 0));
        }
        ask(x, "flip(flip");
        ask(x, "t2");
        due("13: a fault makes no shelves", 6, x.shelf(2, 0));
        shelvesDue("add(t0,t1)", "add(t1,t0)", false);
        shelvesDue("add(t0,t1)", "less(t0,t1)", false);
        shelvesDue("least(t0)", "least( t0 )", true);
        shelvesDue("where(t0:a<2 and not b=3)", "where ( t0 :  a<02 and not b = 003 )", true);
        shelvesDue("where(t0:a<b)", "where(t0:b>a)", false);
        shelvesDue("where(t0:a<b)", "where(t0:[a<b])", false);
        shelvesDue("where(t0:a<b)", "where(t1:a<b)", false);
        shelvesDue("where(t0:a<b or a=b)", "where(t0:a<b)", false);
        shelvesDue("where(t0:a<1 or a<2)", "where(t0:a<2)", false);
        shelvesDue("where(where(t0:a<1):b<1)", "where(where(t0:b<1):a<1)", false);
        shelvesDue("where(t0:a<12)", "where(t0:a<1)", false);
    }

    private static void promise14() {
        KeptAnswers x = new KeptAnswers();
        ask(x, "flip(t0)");
        due("14: a table's", 0, x.front(0, 0));
        x.close();
        x.close();
        due("14: a table's", 2, x.front(0, 0));
        due("14: not worked", 0, x.front(0, 1));
        x.work(0, 1);
        due("14: worked once", 1, x.front(0, 1));
        ask(x, "loop(flip(t0))");
        due("14: shared", 1, x.front(1, 1));
        due("14: new", 0, x.front(1, 2));
        x.finish(1);
        x.fold(2);
        ask(x, "sum(loop(flip(t0)))");
        due("14: a new one begins at folded", 2, x.front(2, 3));
    }

    private static void promise15() {
        KeptAnswers x = new KeptAnswers();
        ask(x, "join(flip(t0),one(t1))");
        due("15: nothing closed", -1, x.work(0, 1));
        x.close();
        x.close();
        due("15: a table", -1, x.work(0, 0));
        due("15: operands are not done", -1, x.work(0, 4));
        due("15: flip", 1, x.work(0, 1));
        due("15: one operand is not done", -1, x.work(0, 4));
        due("15: one", 1, x.work(0, 3));
        due("15: join", 1, x.work(0, 4));
        due("15: not further", -1, x.work(0, 4));
        due("15: flip", 2, x.work(0, 1));
        due("15: flip is done", -1, x.work(0, 1));
        due("15: the other operand", -1, x.work(0, 4));
        due("15: one", 2, x.work(0, 3));
        due("15: join", 2, x.work(0, 4));
    }

    private static void promise16() {
        KeptAnswers x = new KeptAnswers();
        ask(x, "join(flip(t0),flip(t0))");
        ask(x, "add(flip(t0),one(t0))");
        due("16: nothing closed", 0, x.finish(0));
        x.close();
        x.close();
        x.work(0, 1);
        due("16: flip once, join twice", 3, x.finish(0));
        due("16: done", 0, x.finish(0));
        due("16: done", 2, x.front(0, 4));
        due("16: one and add twice", 4, x.finish(1));
        x.close();
        due("16: one edition more", 2, x.finish(0));
        ask(x, "t0");
        due("16: a table has none", 0, x.finish(2));
    }

    private static void promise17() {
        KeptAnswers x = done("flip(less(t1,t0))", 0x12, 0x12, 0x34);
        due("17: below 0", -2, x.weight(0, 2, 0, 1, 2));
        due("17: flipped", -2, x.weight(0, 3, 0, 2, 1));
        due("17: a table", 1, x.weight(0, 1, 0, 3, 4));
        due("17: not closed", VOID, x.weight(0, 1, 1, 3, 4));
        due("17: below 0", VOID, x.weight(0, 1, -1, 3, 4));
        due("17: far", VOID, x.weight(0, 1, MOST, 3, 4));
        rows(x, 0x12);
        x.close();
        due("17: not done", VOID, x.weight(0, 3, 1, 2, 1));
        due("17: a table's is", 3, x.weight(0, 1, 1, 1, 2));
        x.finish(0);
        due("17: done", -3, x.weight(0, 3, 1, 2, 1));
        due("17: as of the one ahead", -2, x.weight(0, 3, 0, 2, 1));
        x.fold(1);
        due("17: folded 1", -2, x.weight(0, 3, 0, 2, 1));
        x.fold(2);
        due("17: folded 2", VOID, x.weight(0, 3, 0, 2, 1));
        due("17: folded 2", VOID, x.weight(0, 1, 0, 1, 2));
        due("17: folded 2", -3, x.weight(0, 3, 1, 2, 1));
        thrown("17: a", Checks.ARGUMENT, () -> x.weight(0, 0, 99, 16, 0));
        thrown("17: b", Checks.ARGUMENT, () -> x.weight(0, 0, 0, 0, -1));
    }

    private static void promise18() {
        KeptAnswers x = done("less(t1,flip(t0))", 0x12);
        x.change(1, 5, 6, 4);
        x.close();
        due("18: below 0", 0, x.answer(0, 0, 2, 1));
        due("18: 0", 0, x.answer(0, 0, 0, 0));
        due("18: not done", NONE, x.answer(0, 1, 5, 6));
        x.finish(0);
        due("18: above 0", 4, x.answer(0, 1, 5, 6));
        due("18: as of the one ahead", 0, x.answer(0, 0, 5, 6));
        due("18: not closed", NONE, x.answer(0, 2, 5, 6));
        due("18: below 0", NONE, x.answer(0, LEAST, 5, 6));
        x.fold(2);
        due("18: folded away", NONE, x.answer(0, 0, 5, 6));
        thrown("18: a", Checks.ARGUMENT, () -> x.answer(0, 9, -1, 0));
        thrown("18: b", Checks.ARGUMENT, () -> x.answer(0, 9, 0, 16));
    }

    private static void promise19() {
        KeptAnswers x = done("add(t0,less(t0,t1))", 0x12, 0x12, 0xFF);
        x.change(1, 1, 2, 9);
        x.close();
        due("19: two", 2, x.size(0, 0));
        due("19: not done", NONE, x.size(0, 1));
        x.finish(0);
        due("19: one is below 0", 1, x.size(0, 1));
        due("19: below 0", NONE, x.size(0, -1));
        x.fold(2);
        due("19: folded away", NONE, x.size(0, 0));
    }

    private static void promise20() {
        KeptAnswers x = done("t0", 0xFF, 0x21, 0x12, 0x00, 0x13);
        int[] want = {0x00, 0x12, 0x13, 0x21, 0xFF, NONE};
        for (int k = 0; k < want.length; k++) {
            due("20: row " + k, want[k], x.row(0, 0, k));
        }
        due("20: k below 0", NONE, x.row(0, 0, -1));
        due("20: k far", NONE, x.row(0, 0, MOST));
        due("20: not told", NONE, x.row(0, 1, 0));
        x.change(0, 1, 2, -2);
        x.close();
        due("20: owed ones are none", 0x13, x.row(0, 1, 1));
    }

    private static void promise21() {
        KeptAnswers x = done("flip(t0)", 0x12, 0x34, 0x56);
        due("21: edition 0", 3, x.changed(0, 1, 0));
        due("21: a table", 3, x.changed(0, 0, 0));
        x.change(0, 1, 2, -2);
        x.change(0, 3, 4, -1);
        x.change(0, 5, 6, 2);
        x.change(0, 5, 6, -2);
        x.change(0, 7, 7, 1);
        x.close();
        due("21: not done", NONE, x.changed(0, 1, 1));
        due("21: a table is", 3, x.changed(0, 0, 1));
        x.finish(0);
        due("21: edition 1", 3, x.changed(0, 1, 1));
        due("21: below 0", NONE, x.changed(0, 1, -1));
        due("21: the least", NONE, x.changed(0, 1, LEAST));
        due("21: not closed", NONE, x.changed(0, 1, 2));
        x.fold(1);
        due("21: folded 1", 3, x.changed(0, 1, 0));
        due("21: folded 1", 3, x.changed(0, 1, 1));
        x.fold(2);
        due("21: the one ahead is folded away", NONE, x.changed(0, 1, 1));
        due("21: it is folded away", NONE, x.changed(0, 1, 0));
        x.close();
        x.finish(0);
        due("21: nothing changed", 0, x.changed(0, 1, 2));
    }

    private static void promise22() {
        KeptAnswers x = done("flip(t0)", 0x12, 0x34);
        rows(x, 0x12, 0x56);
        x.close();
        rows(x, 0x78);
        x.close();
        due("22: not done", NONE, x.since(0, 1, 0, 1));
        due("22: a table", 3, x.since(0, 0, 0, 2));
        x.finish(0);
        due("22: forth", 3, x.since(0, 1, 0, 2));
        due("22: and back", 3, x.since(0, 1, 2, 0));
        due("22: one", 1, x.since(0, 1, 1, 2));
        due("22: the same", 0, x.since(0, 1, 1, 1));
        due("22: from is none", NONE, x.since(0, 1, -1, 1));
        due("22: to is none", NONE, x.since(0, 1, 1, 3));
        due("22: both are none", NONE, x.since(0, 1, 5, 5));
        x.fold(2);
        due("22: folded away", NONE, x.since(0, 1, 0, 2));
        due("22: not folded away", 1, x.since(0, 1, 1, 2));
    }

    private static void promise23() {
        KeptAnswers x = new KeptAnswers();
        due("23: nothing closed", 0, x.fold(100));
        x.close();
        x.close();
        x.close();
        ask(x, "flip(t0)");
        due("23: a shelf is at 0", 0, x.fold(3));
        x.work(0, 1);
        due("23: a shelf is at 1", 1, x.fold(3));
        x.finish(0);
        int reader = x.reader(2);
        due("23: no further than asked", 1, x.fold(1));
        due("23: a reader holds 2", 2, x.fold(3));
        x.gone(reader);
        due("23: it never falls", 2, x.fold(0));
        due("23: what is closed", 3, x.fold(100));
        due("23: a reader below", 0, x.reader(2) - 1);
        due("23: it does not fall for it", 3, x.fold(3));
        x.close();
        due("23: but is held", 3, x.fold(4));
        x.gone(1);
        x.leave(0);
        due("23: a shelf that is gone", 4, x.fold(4));
        thrown("23: 101", Checks.ARGUMENT, () -> x.fold(101));
        thrown("23: -1", Checks.ARGUMENT, () -> x.fold(-1));
    }

    private static void promise24() {
        KeptAnswers x = new KeptAnswers();
        due("24: the first", 0, x.reader(0));
        due("24: 100", 1, x.reader(100));
        thrown("24: 101", Checks.ARGUMENT, () -> x.reader(101));
        thrown("24: -1", Checks.ARGUMENT, () -> x.reader(-1));
        x.gone(0);
        x.close();
        x.close();
        x.close();
        due("24: folded", 3, x.fold(3));
        thrown("24: folded away", Checks.ARGUMENT, () -> x.reader(1));
        due("24: folded less 1", 2, x.reader(2));
        for (int i = 3; i < 8; i++) {
            due("24: more", i, x.reader(50));
        }
        due("24: there are 8", -1, x.reader(50));
        thrown("24: wrong, and there are 8", Checks.ARGUMENT, () -> x.reader(1));
        x.gone(5);
        due("24: also those that are gone", -1, x.reader(50));
    }

    private static void promise25() {
        KeptAnswers x = new KeptAnswers();
        thrown("25: none", Checks.INDEX, () -> x.gone(0));
        x.reader(7);
        x.reader(0);
        due("25: the first", 7, x.gone(0));
        thrown("25: it is gone", Checks.INDEX, () -> x.gone(0));
        due("25: the second", 0, x.gone(1));
        for (int reader : new int[] {-1, 1, 2, 8, LEAST, MOST}) {
            thrown("25: " + reader, Checks.INDEX, () -> x.gone(reader));
        }
        due("25: numbers stay", 2, x.reader(3));
    }

    private static void wayDue(KeptAnswers x, int node, int a, int b, int... want) {
        for (int k = 0; k < want.length; k++) {
            due("26: " + k + " from " + a + " to " + b, want[k], x.way(0, node, 0, a, b, k));
        }
        due("26: its end", NONE, x.way(0, node, 0, a, b, want.length));
        due("26: below 0", NONE, x.way(0, node, 0, a, b, -1));
        due("26: far", NONE, x.way(0, node, 0, a, b, MOST));
        due("26: least", NONE, x.way(0, node, 0, a, b, LEAST));
    }

    private static void promise26() {
        // from 0 to 9: by 5 or 3, then by 1 or 2; by 4 it is longer
        KeptAnswers x = done("loop(t0)", 0x05, 0x03, 0x04, 0x51, 0x32, 0x29, 0x19, 0x46, 0x67, 0x79,
            0x90, 0xAA, 0xBC, 0xCB, 0x31);
        wayDue(x, 1, 0, 9, 0x03, 0x31, 0x19);
        wayDue(x, 1, 0, 5, 0x05);
        wayDue(x, 1, 4, 9, 0x46, 0x67, 0x79);
        wayDue(x, 1, 9, 9, 0x90, 0x03, 0x31, 0x19);
        wayDue(x, 1, 10, 10, 0xAA);
        wayDue(x, 1, 11, 11, 0xBC, 0xCB);
        wayDue(x, 1, 0, 10);
        wayDue(x, 1, 15, 0);
        wayDue(x, 0, 0, 5);
        due("26: not told", NONE, x.way(0, 1, 1, 0, 5, 0));
        thrown("26: a", Checks.ARGUMENT, () -> x.way(0, 0, 9, 16, 0, 0));
        thrown("26: b", Checks.ARGUMENT, () -> x.way(0, 1, 0, 0, -1, 0));
        int[] ring = new int[16];
        for (int i = 0; i < 16; i++) {
            ring[i] = 16 * i + (i + 1) % 16;
        }
        KeptAnswers round = done("flip(loop(flip(t0)))", ring);
        int[] back = new int[16];
        for (int i = 0; i < 16; i++) {
            back[i] = 16 * ((16 - i) % 16) + 15 - i;
        }
        wayDue(round, 2, 0, 0, back);
        wayDue(round, 3, 0, 0);
        round.change(0, 0, 1, -2);
        round.close();
        round.finish(0);
        due("26: no way now", NONE, round.way(0, 2, 1, 0, 0, 0));
        due("26: but as of 0", back[0], round.way(0, 2, 0, 0, 0, 0));
    }

    private static void promise27() {
        KeptAnswers x = new KeptAnswers();
        x.change(0, 1, 2, 3);
        x.change(0, 1, 3, 1);
        x.change(1, 2, 5, 2);
        x.change(1, 3, 5, -4);
        x.close();
        ask(x, "join(t0,t1)");
        due("27: not done", NONE, x.without(0, 0, 1, 5, 0, 1, 2));
        x.finish(0);
        due("27: a row that adds", 0, x.without(0, 0, 1, 5, 0, 1, 2));
        due("27: a row that is owed", 6, x.without(0, 0, 1, 5, 1, 3, 5));
        due("27: a row that is not there", 2, x.without(0, 0, 1, 5, 0, 7, 7));
        due("27: a table that is not asked", 2, x.without(0, 0, 1, 5, 3, 1, 2));
        due("27: the answer stays", 2, x.answer(0, 0, 1, 5));
        due("27: not told", NONE, x.without(0, 1, 1, 5, 0, 1, 2));
        KeptAnswers whole = new KeptAnswers();
        whole.change(0, 1, 3, 1);
        for (int b = 0; b < 16; b++) {
            whole.change(1, 3, b, 2);
        }
        whole.close();
        ask(whole, "flip(join(t0,t1))");
        whole.finish(0);
        due("27: all rows of one A go", 0, whole.without(0, 0, 7, 1, 0, 1, 3));
        due("27: one of them goes", 2, whole.without(0, 0, 7, 1, 1, 3, 6));
        due("27: that one", 0, whole.without(0, 0, 7, 1, 1, 3, 7));
        thrown("27: table", Checks.INDEX, () -> x.without(0, 9, 99, 5, 4, 1, 2));
        thrown("27: a", Checks.ARGUMENT, () -> x.without(0, 9, 16, 5, 0, 1, 2));
        thrown("27: b", Checks.ARGUMENT, () -> x.without(0, 9, 1, -1, 0, 1, 2));
        thrown("27: x", Checks.ARGUMENT, () -> x.without(0, 9, 1, 5, 0, 16, 2));
        thrown("27: y", Checks.ARGUMENT, () -> x.without(0, 9, 1, 5, 0, 1, 16));
    }

    private static void promise28() {
        KeptAnswers x = done("loop(t0)", 0x12, 0x23, 0x24, 0x35, 0x45, 0x56);
        due("28: first and last", 2, x.needed(0, 0, 1, 6, 0));
        due("28: of two ways none", 0, x.needed(0, 0, 2, 5, 0));
        due("28: another table", 0, x.needed(0, 0, 1, 6, 1));
        due("28: an answer of 0", NONE, x.needed(0, 0, 6, 1, 0));
        due("28: not told", NONE, x.needed(0, 1, 1, 6, 0));
        thrown("28: table", Checks.INDEX, () -> x.needed(0, 9, 99, 6, -1));
        thrown("28: a", Checks.ARGUMENT, () -> x.needed(0, 9, -1, 6, 0));
        thrown("28: b", Checks.ARGUMENT, () -> x.needed(0, 9, 1, 16, 0));
        KeptAnswers owed = new KeptAnswers();
        owed.change(1, 3, 3, -2);
        owed.close();
        ask(owed, "less(t0,t1)");
        owed.finish(0);
        due("28: an owed row", 1, owed.needed(0, 0, 3, 3, 1));
    }

    private static void promise29() {
        KeptAnswers x = done("add(loop(t0),t2)", 0x12, 0x23, 0x24, 0x35, 0x45, 0x56, 0x77);
        int[] want = {0x12, 0x24, 0x45, 0x56, NONE};
        for (int k = 0; k < want.length; k++) {
            due("29: " + k, want[k], x.kern(0, 0, 1, 6, k));
        }
        due("29: k below 0", NONE, x.kern(0, 0, 1, 6, -1));
        due("29: an answer of 0", NONE, x.kern(0, 0, 6, 1, 0));
        due("29: not told", NONE, x.kern(0, 1, 1, 6, 0));
        thrown("29: a", Checks.ARGUMENT, () -> x.kern(0, 9, 16, 6, 0));
        thrown("29: b", Checks.ARGUMENT, () -> x.kern(0, 9, 1, -1, 0));
        x.change(2, 1, 6, 1);
        x.change(3, 1, 6, 1);
        x.close();
        x.finish(0);
        due("29: all of table 0 can go", 512 + 0x16, x.kern(0, 1, 1, 6, 0));
        due("29: and of table 3", NONE, x.kern(0, 1, 1, 6, 1));
        KeptAnswers owed = new KeptAnswers();
        owed.change(1, 3, 3, -2);
        owed.close();
        ask(owed, "less(t0,t1)");
        owed.finish(0);
        due("29: owed rows are none", NONE, owed.kern(0, 0, 3, 3, 0));
        KeptAnswers less = new KeptAnswers();
        less.change(0, 1, 3, 1);
        less.change(3, 1, 2, 1);
        less.change(3, 1, 3, 1);
        less.change(2, 2, 5, 1);
        less.change(2, 3, 5, 1);
        less.close();
        ask(less, "join(less(t3,t0),t2)");
        less.finish(0);
        // what is taken away of table 0 makes room for taking away the only row of the way at first
        due("29: of table 2", 512 + 0x35, less.kern(0, 0, 1, 5, 0));
        due("29: of table 3", 768 + 0x13, less.kern(0, 0, 1, 5, 1));
        due("29: no more", NONE, less.kern(0, 0, 1, 5, 2));
    }

    private static void promise30() {
        KeptAnswers x = done("join(t0,flip(t1))", 0x12, 0x13);
        due("30: how many", 2, x.wanted(0, 0, 1, 5, 1, NONE));
        due("30: the first", 0x52, x.wanted(0, 0, 1, 5, 1, 0));
        due("30: the second", 0x53, x.wanted(0, 0, 1, 5, 1, 1));
        due("30: no more", NONE, x.wanted(0, 0, 1, 5, 1, 2));
        due("30: below NONE", NONE, x.wanted(0, 0, 1, 5, 1, -2));
        due("30: the least", NONE, x.wanted(0, 0, 1, 5, 1, LEAST));
        due("30: none helps", 0, x.wanted(0, 0, 1, 5, 0, NONE));
        due("30: a table not asked", 0, x.wanted(0, 0, 1, 5, 3, NONE));
        due("30: not told", NONE, x.wanted(0, 1, 1, 5, 1, NONE));
        x.change(1, 5, 2, 1);
        x.close();
        x.finish(0);
        due("30: above 0", NONE, x.wanted(0, 1, 1, 5, 1, NONE));
        x.change(1, 5, 2, -2);
        x.close();
        x.finish(0);
        due("30: below 0, and one makes it 0", 0, x.wanted(0, 2, 1, 5, 1, NONE));
        thrown("30: table", Checks.INDEX, () -> x.wanted(0, 9, 99, 5, 4, 0));
        thrown("30: a", Checks.ARGUMENT, () -> x.wanted(0, 9, 16, 5, 1, 0));
        thrown("30: b", Checks.ARGUMENT, () -> x.wanted(0, 9, 1, -1, 1, 0));
    }

    private static void promise31() {
        KeptAnswers x = done("less(flip(t0),t1)", 0x21);
        int[][] told = {{0, 1}, {1, 3}, {1, 1}, {0, 9}, {1, 0}, {0, 1}};
        for (int[] one : told) {
            if (one[1] != 0) {
                x.change(one[0], one[0] == 0 ? 2 : 1, one[0] == 0 ? 1 : 2, one[1]);
            }
            x.close();
        }
        due("31: edition 0 alone is done", 0, x.when(0, 1, 2, 0));
        due("31: no more", NONE, x.when(0, 1, 2, 1));
        x.finish(0);
        // 1, 2, -1, -2, 7, 7, 8
        int[] want = {0, 1, 2, 4, 6, NONE};
        for (int k = 0; k < want.length; k++) {
            due("31: " + k, want[k], x.when(0, 1, 2, k));
        }
        due("31: k below 0", NONE, x.when(0, 1, 2, -1));
        due("31: never", NONE, x.when(0, 5, 5, 0));
        x.fold(1);
        due("31: folded 1", 0, x.when(0, 1, 2, 0));
        x.fold(2);
        due("31: 1 is told, but not the one ahead", 2, x.when(0, 1, 2, 0));
        thrown("31: a", Checks.ARGUMENT, () -> x.when(0, 16, 0, 0));
        thrown("31: b", Checks.ARGUMENT, () -> x.when(0, 0, 16, 0));
    }

    private static void promise32() {
        KeptAnswers x = done("t0", 0x12, 0x12, 0x34);
        ask(x, "one(t0)");
        ask(x, "less(t1,t0)");
        due("32: one is not done", NONE, x.unlike(0, 1, 0));
        due("32: the other way", NONE, x.unlike(1, 0, 0));
        x.finish(1);
        x.finish(2);
        due("32: one", 1, x.unlike(0, 1, 0));
        due("32: the other way", 1, x.unlike(1, 0, 0));
        due("32: below 0 is 0", 2, x.unlike(0, 2, 0));
        due("32: itself", 0, x.unlike(0, 0, 0));
        due("32: not told", NONE, x.unlike(0, 1, 1));
        thrown("32: the first", Checks.ELEMENT, () -> x.unlike(3, 0, 0));
        thrown("32: the second", Checks.ELEMENT, () -> x.unlike(0, 3, 0));
    }

    private static void promise33() {
        KeptAnswers x = new KeptAnswers();
        x.close();
        ask(x, "flip(t0)");
        int empty = 7;
        for (int i = 0; i < 256; i++) {
            empty *= 31;
        }
        due("33: all 0", empty, x.digest(0, 0, 0));
        due("33: not done", 0, x.digest(0, 1, 0));
        x.finish(0);
        due("33: done", empty, x.digest(0, 1, 0));
        x.change(0, 15, 15, 5);
        x.change(0, 15, 14, -2);
        x.close();
        x.finish(0);
        due("33: the last two rows", empty + 5 - 62, x.digest(0, 0, 1));
        int turned = -2;
        for (int i = 0; i < 16; i++) {
            turned *= 31;
        }
        due("33: flipped", empty + 5 + turned, x.digest(0, 1, 1));
        due("33: not closed", 0, x.digest(0, 0, 2));
        due("33: below 0", 0, x.digest(0, 0, -1));
    }

    private static void promise34() {
        KeptAnswers x = new KeptAnswers();
        ask(x, "join(flip(t0),add(flip(t0),one(t1)))");
        due("34: nothing closed", NONE, x.ready(0, 0));
        x.close();
        int[] want = {1, 3, 5, NONE};
        for (int k = 0; k < want.length; k++) {
            due("34: " + k, want[k], x.ready(0, k));
        }
        due("34: k below 0", NONE, x.ready(0, -1));
        x.work(0, 1);
        due("34: one is", 5, x.ready(0, 0));
        x.work(0, 5);
        due("34: add is", 6, x.ready(0, 0));
        due("34: join is not", NONE, x.ready(0, 1));
        x.work(0, 6);
        due("34: join is", 7, x.ready(0, 0));
        x.work(0, 7);
        due("34: none", NONE, x.ready(0, 0));
    }

    private static void promise35() {
        KeptAnswers x = new KeptAnswers();
        ask(x, "join(flip(t0),add(flip(t0),one(t1)))");
        due("35: not closed", NONE, x.lacks(0, 0));
        x.close();
        x.close();
        due("35: four shelves once", 4, x.lacks(0, 0));
        due("35: four shelves twice", 8, x.lacks(0, 1));
        due("35: not closed", NONE, x.lacks(0, 2));
        due("35: below 0", NONE, x.lacks(0, -1));
        x.work(0, 1);
        x.work(0, 1);
        due("35: flip is done", 3, x.lacks(0, 0));
        due("35: flip is done", 6, x.lacks(0, 1));
        x.finish(0);
        due("35: all is done", 0, x.lacks(0, 1));
        ask(x, "t0");
        due("35: tables are left out", 0, x.lacks(1, 1));
    }

    private static void promise36() {
        KeptAnswers x = new KeptAnswers();
        x.change(3, 15, 1, -9);
        x.close();
        x.close();
        x.room(2);
        x.late(1, 2, 3, 4, 0);
        int[][] want = {{3, 15, 1, -9, 0, 0}, {1, 2, 3, 4, 2, 1}};
        for (int i = 0; i < 2; i++) {
            for (int what = 0; what < 6; what++) {
                due("36: " + i + " " + what, want[i][what], x.told(i, what));
            }
        }
        for (int change : new int[] {-1, 2, LEAST, MOST}) {
            thrown("36: change " + change, Checks.INDEX, () -> x.told(change, 9));
        }
        for (int what : new int[] {-1, 6, LEAST, MOST}) {
            thrown("36: what " + what, Checks.ARGUMENT, () -> x.told(0, what));
        }
        x.drop();
        thrown("36: dropped", Checks.INDEX, () -> x.told(1, 0));
    }

    private static void promise37() {
        KeptAnswers x = new KeptAnswers();
        due("37: none", 0, x.back());
        rows(x, 0x12, 0x12, 0x34);
        due("37: the latest", 1, x.back());
        due("37: it is taken", 0, x.rows(0, 3, 4, 0));
        due("37: others stay", 2, x.rows(0, 1, 2, 0));
        due("37: the next", 1, x.back());
        x.close();
        due("37: of a closed edition", 0, x.back());
        x.room(1);
        x.late(0, 1, 2, 1, 0);
        due("37: a late one", 1, x.back());
        due("37: no more", 0, x.back());
        due("37: one is told", 1, x.count(1));
        due("37: none is late", 0, x.count(3));
    }

    private static void promise38() {
        KeptAnswers x = new KeptAnswers();
        rows(x, 0x12, 0x34);
        x.close();
        x.close();
        x.room(2);
        x.late(0, 1, 1, 1, 0);
        x.close();
        x.late(0, 1, 1, 1, 1);
        rows(x, 0x56);
        ask(x, "flip(t0)");
        ask(x, "join(t0,flip(t0))");
        x.leave(0);
        x.finish(1);
        x.fold(2);
        x.reader(9);
        x.reader(9);
        x.gone(0);
        x.feed(0, 0, 0, 0, 0);
        int[] want = {3, 5, 2, 2, 1, 3, 2, 1, 20};
        for (int what = 0; what < want.length; what++) {
            due("38: " + what, want[what], x.count(what));
        }
        due("38: 9", NONE, x.count(9));
        due("38: -1", NONE, x.count(-1));
        due("38: far", NONE, x.count(LEAST));
        x.drop();
        due("38: told, after a drop", 3, x.count(1));
        due("38: open, after a drop", 0, x.count(2));
        due("38: late, after a drop", 1, x.count(3));
    }

    /** The first and the last rows, A and B, where counting from 1 or to 14 would show. */
    private static void corners() {
        int[] cells = {0x00, 0x0F, 0xF0, 0xFF};
        KeptAnswers x = done("add(t0,less(join(t0,t0),join(t0,t0)))", cells);
        ask(x, "loop(t0)");
        ask(x, "one(flip(t1))");
        ask(x, "where(t0:not a<b)");
        ask(x, "count(t0)");
        x.finish(1);
        x.finish(2);
        x.finish(3);
        x.finish(4);
        due("corners: size", 4, x.size(0, 0));
        due("corners: size of a loop", 4, x.size(1, 0));
        due("corners: unlike", 4, x.unlike(0, 2, 0));
        due("corners: changed", 4, x.changed(0, 0, 0));
        due("corners: where", 3, x.size(3, 0));
        due("corners: count", 2, x.size(4, 0));
        for (int k = 0; k < 4; k++) {
            int a = cells[k] / 16;
            int b = cells[k] % 16;
            due("corners: row", cells[k], x.row(0, 0, k));
            due("corners: weight", 1, x.weight(0, 0, 0, a, b));
            due("corners: joined", 2, x.weight(0, 3, 0, a, b));
            due("corners: without", 0, x.without(0, 0, a, b, 0, a, b));
            due("corners: needed", 1, x.needed(0, 0, a, b, 0));
            due("corners: kern", cells[k], x.kern(0, 0, a, b, 0));
            due("corners: kern", NONE, x.kern(0, 0, a, b, 1));
            due("corners: way", cells[k], x.way(1, 1, 0, a, b, 0));
            due("corners: wanted", 16 * b + a, x.wanted(2, 0, a, b, 1, 0));
            due("corners: wanted", 1, x.wanted(2, 0, a, b, 1, NONE));
            due("corners: when", 0, x.when(0, a, b, 0));
        }
        due("corners: the way of a row that is taken away", 0x0F, x.way(1, 1, 0, 0, 15, 0));
        due("corners: by 15", 1, x.without(1, 0, 0, 0, 0, 0, 0));
        due("corners: count at 2", 1, x.answer(4, 0, 0, 2));
    }
}
