/** The edges of questions, shelves, fronts, folding and readers: promises 11 to 16, 23 to 25, 34, 35. */
final class ShelfEdges {
    private static final int NONE = Edges.NONE;
    private static final int LEAST = Edges.LEAST;
    private static final int MOST = Edges.MOST;
    /** A chain of all the operators that a text may have. */
    private static final String TWELVE = "flip(".repeat(11) + "t0" + ")".repeat(11);

    private final Edges edges;

    ShelfEdges(Edges edges) {
        this.edges = edges;
    }

    void all() {
        leave();
        leaveAll();
        leaveAndAskAnew();
        nodes();
        shelfNumbers();
        shelfAlike();
        front();
        frontBegins();
        work();
        workToTheEnd();
        finish();
        fold();
        foldHeld();
        foldNumbers();
        reader();
        readerHolds();
        gone();
        ready();
        lacks();
        refused();
    }

    private static int ask(KeptAnswers x, String text) {
        return Checks.ask(x, text);
    }

    // ---- promise 11

    private void leave() {
        edges.sentence(11, "A QUESTION is LEFT: how many SHELVES are gone by that.");
        KeptAnswers x = new KeptAnswers();
        ask(x, "t0");
        ask(x, "t0");
        ask(x, "join(t0,t0)");
        ask(x, TWELVE);
        edges.due("its shelf is in others", 0, x.leave(0));
        edges.due("13 shelves are", 13, x.count(5));
        edges.due("the chain, but not the table", 11, x.leave(3));
        edges.due("two nodes of one shelf, which is in another", 1, x.leave(2));
        edges.due("the last", 1, x.leave(1));
        edges.due("none is", 0, x.count(5));
        edges.sentence(11, "A QUESTION can be LEFT: its NODES are no more (its number stays);");
        edges.thrown("its nodes are no more", Checks.ELEMENT, () -> x.nodes(2));
        edges.due("its number stays", 4, ask(x, "t0"));
        edges.due("one is not left", 1, x.count(4));
        edges.sentence(11, "NoSuchElementException: no such QUESTION, or it was LEFT (so below).");
        edges.thrown("none was asked", Checks.ELEMENT, () -> new KeptAnswers().leave(0));
        edges.thrown("it was left", Checks.ELEMENT, () -> x.leave(0));
    }

    private void leaveAll() {
        edges.sentence(11,
            "a SHELF that is in no QUESTION any more, nor below one that is, is gone (its number, too);");
        KeptAnswers x = new KeptAnswers();
        ask(x, "flip(one(t0))");
        ask(x, "loop(flip(one(t0)))");
        ask(x, "one(t0)");
        edges.due("all stand below others", 0, x.leave(0));
        edges.due("loop and flip", 2, x.leave(1));
        edges.due("one and the table", 2, x.leave(2));
        KeptAnswers all = new KeptAnswers();
        String[] words = {"flip", "one", "count", "sum", "least", "most"};
        for (String word : words) {
            ask(all, (word + "(").repeat(11) + "t0" + ")".repeat(11));
        }
        int gone = 0;
        for (int q = 0; q < 6; q++) {
            gone += all.leave(q);
        }
        edges.due("67 in six questions", 67, gone);
        KeptAnswers held = Made.done("flip(t0)", 0x12);
        ask(held, "one(t1)");
        edges.due("a shelf that is not done holds folding", 0, held.fold(1));
        held.leave(1);
        edges.due("one that is gone does not", 1, held.fold(1));
    }

    private void leaveAndAskAnew() {
        edges.sentence(11, "if it is asked for anew, it is a new one.");
        KeptAnswers x = Made.done("one(flip(t0))", 0x12);
        ask(x, "flip(t0)");
        x.leave(0);
        ask(x, "one(flip(t0))");
        edges.due("the table is the old one", 0, x.shelf(2, 0));
        edges.due("flip is the old one", 1, x.shelf(2, 1));
        edges.due("one is a new one", 3, x.shelf(2, 2));
        edges.due("flip is done", 1, x.front(2, 1));
        edges.due("one is not", 0, x.front(2, 2));
        edges.due("nothing is told of it", Edges.VOID, x.weight(2, 2, 0, 2, 1));
        edges.due("it is worked once", 1, x.finish(2));
        edges.due("and has what it had", 1, x.answer(2, 0, 2, 1));
        x.leave(1);
        x.leave(2);
        ask(x, "t0");
        edges.due("a new table", 4, x.shelf(3, 0));
        edges.due("its front", 1, x.front(3, 0));
        for (int q = 4; q < 6; q++) {
            x.leave(q - 1);
            ask(x, "t0");
            edges.due("and again a new one", q + 1, x.shelf(q, 0));
        }
    }

    // ---- promise 12 and 13

    private void nodes() {
        edges.sentence(12, "How many NODES a QUESTION has.");
        KeptAnswers x = new KeptAnswers();
        ask(x, "t3");
        ask(x, TWELVE);
        ask(x, "add(".repeat(5) + "one(t0)" + ",t0)".repeat(5));
        edges.due("one", 1, x.nodes(0));
        edges.due("twelve", 12, x.nodes(1));
        edges.due("alike ones are nodes each", 12, x.nodes(2));
        edges.due("but one shelf", 0, x.shelf(2, 0) - x.shelf(2, 11 - 1));
        edges.sentence(12,
            "NODES of a QUESTION are its operators, numbered from 0 on as they END in the text (its last "
            + "one is the whole).");
        KeptAnswers y = new KeptAnswers();
        y.change(0, 1, 2, 3);
        y.change(1, 1, 2, 5);
        y.change(2, 2, 1, 7);
        y.close();
        ask(y, "less(flip(t2),add(t0,one(t1)))");
        y.finish(0);
        edges.due("0 is t2", 7, y.weight(0, 0, 0, 2, 1));
        edges.due("1 is flip", 7, y.weight(0, 1, 0, 1, 2));
        edges.due("2 is t0", 3, y.weight(0, 2, 0, 1, 2));
        edges.due("3 is t1", 5, y.weight(0, 3, 0, 1, 2));
        edges.due("4 is one", 1, y.weight(0, 4, 0, 1, 2));
        edges.due("5 is add", 4, y.weight(0, 5, 0, 1, 2));
        edges.due("6 is less", 3, y.weight(0, 6, 0, 1, 2));
        edges.due("there are 7", 7, y.nodes(0));
    }

    private void shelfNumbers() {
        edges.sentence(13, "SHELVES are numbered from 0 on as they first END.");
        KeptAnswers x = new KeptAnswers();
        ask(x, "less(flip(t2),add(t0,one(t2)))");
        int[] first = {0, 1, 2, 0, 3, 4, 5};
        for (int node = 0; node < first.length; node++) {
            edges.due("node " + node, first[node], x.shelf(0, node));
        }
        ask(x, "add(t0,flip(t3");
        ask(x, "t9");
        ask(x, "one(".repeat(13));
        ask(x, "most(add(t3,t0))");
        int[] second = {6, 2, 7, 8};
        for (int node = 0; node < second.length; node++) {
            edges.due("faults make no shelf: node " + node, second[node], x.shelf(1, node));
        }
        edges.sentence(13, "The SHELF of a NODE.");
        KeptAnswers all = new KeptAnswers();
        String[] words = {"flip", "one", "count", "sum", "least", "most"};
        for (int q = 0; q < 6; q++) {
            ask(all, (words[q] + "(").repeat(11) + "t" + q % 4 + ")".repeat(11));
        }
        edges.due("the greatest number", 69, all.shelf(5, 11));
        edges.due("the first of its question", 59, all.shelf(5, 1));
        edges.due("its table is an old one", 12, all.shelf(5, 0));
        KeptAnswers most = Made.closed(1);
        for (int q = 0; q < 6; q++) {
            ask(most, TWELVE);
            edges.due("12 shelves are", 12, most.count(5));
            if (q < 5) {
                most.leave(q);
            }
        }
        edges.due("the 72nd", 71, most.shelf(5, 11));
        for (int node = 1; node < 11; node++) {
            most.work(5, node);
        }
        edges.due("it holds folding as all do", 0, most.fold(1));
        edges.due("it alone", 1, most.lacks(5, 0));
        most.work(5, 11);
        edges.due("and no more", 1, most.fold(1));
        edges.due("all 12 go", 12, most.leave(5));
        edges.due("none is", 0, most.count(5));
    }

    private void alike(boolean same, String one, String two) {
        KeptAnswers x = new KeptAnswers();
        ask(x, one);
        ask(x, two);
        boolean are = x.shelf(0, x.nodes(0) - 1) == x.shelf(1, x.nodes(1) - 1);
        edges.due(one + " and " + two, same ? 1 : 0, are ? 1 : 0);
    }

    private void shelfAlike() {
        edges.sentence(13, "SHELVES: alike operators (the same word or TABLE, with alike operands in order;");
        alike(true, "t3", " t3 ");
        alike(false, "t0", "t1");
        alike(true, "add(t0,t1)", "add ( t0 , t1 )");
        alike(false, "add(t0,t1)", "add(t1,t0)");
        alike(false, "add(t0,t1)", "both(t0,t1)");
        alike(false, "join(t0,t0)", "join(t0,t1)");
        alike(false, "join(t0,t0)", "join(t1,t0)");
        alike(false, "one(t0)", "one(one(t0))");
        alike(false, "flip(flip(t0))", "t0");
        alike(false, "least(t0)", "most(t0)");
        edges.sentence(13, "where: with the same C: sign for sign, word for word, number by value)");
        alike(true, "where(t0:a<3)", "where(t0: a < 0003 )");
        alike(true, "where(t0:a<0)", "where(t0:a<000)");
        alike(true, "where(t0:not[a<1 or b>02]and 15=a)", "where ( t0 : not [ a<01 or b>2 ] and 015=a )");
        alike(false, "where(t0:a<3)", "where(t1:a<3)");
        alike(false, "where(t0:a<3)", "where(t0:a<4)");
        alike(false, "where(t0:a<1)", "where(t0:a<11)");
        alike(false, "where(t0:a<1)", "where(t0:a<10)");
        alike(false, "where(t0:a<b)", "where(t0:b>a)");
        alike(false, "where(t0:a<b)", "where(t0:a>b)");
        alike(false, "where(t0:a<b)", "where(t0:b<a)");
        alike(false, "where(t0:a=b)", "where(t0:b=a)");
        alike(false, "where(t0:a<b)", "where(t0:[a<b])");
        alike(false, "where(t0:a<b)", "where(t0:not not a<b)");
        alike(false, "where(t0:a<b or a=b)", "where(t0:a=b or a<b)");
        alike(false, "where(t0:a<b or a=b)", "where(t0:a<b and a=b)");
        alike(false, "where(t0:a<b)", "where(t0:a<b or a<b)");
        alike(false, "where(t0:a<b or a<b)", "where(t0:a<b)");
        alike(false, "where(t0:a=0)", "where(t0:a=b)");
        alike(false, "where(t0:15=15)", "where(t0:a=a)");
        alike(false, "where(where(t0:a<1):b<1)", "where(where(t0:b<1):a<1)");
        alike(false, "where(where(t0:a<1):a<1)", "where(t0:a<1)");
        alike(true, "where(where(t0:a<1):b<1)", "where(where(t0:a<01):b<01)");
        edges.sentence(13, "are one SHELF, in whichever QUESTION.");
        KeptAnswers x = new KeptAnswers();
        ask(x, "join(where(t0:a<1),where(t0:a<01))");
        edges.due("in one question", 3, x.count(5));
        ask(x, "flip(where(t0:a<001))");
        edges.due("in two", 4, x.count(5));
    }

    // ---- promise 14

    private void front() {
        edges.sentence(14, "FRONT of a NODE's SHELF.");
        KeptAnswers x = new KeptAnswers();
        ask(x, "join(flip(t0),flip(t0))");
        Made.close(x, 2);
        x.work(0, 1);
        edges.due("flip, once", 1, x.front(0, 1));
        edges.due("its other node is of the same shelf", 1, x.front(0, 3));
        edges.due("join", 0, x.front(0, 4));
        edges.sentence(14, "FRONT of a SHELF: how many EDITIONS are DONE there (0, 1, .. below it).");
        edges.due("edition 0 is done on flip", 1, x.weight(0, 1, 0, 0, 0) == Edges.VOID ? 0 : 1);
        edges.due("edition 1 is not", Edges.VOID, x.weight(0, 1, 1, 0, 0));
        edges.sentence(14, "Of a TABLE: all that are closed.");
        KeptAnswers table = new KeptAnswers();
        ask(table, "t0");
        for (int closed = 0; closed <= 100; closed++) {
            edges.due("closed " + closed, closed, table.front(0, 0));
            if (closed < 100) {
                table.close();
            }
        }
    }

    private void frontBegins() {
        edges.sentence(14, "A new SHELF begins at FOLDED.");
        for (int folded = 0; folded <= 3; folded++) {
            KeptAnswers x = Made.closed(3);
            x.fold(folded);
            ask(x, "flip(t0)");
            edges.due("folded " + folded, folded, x.front(0, 1));
            edges.due("the table", 3, x.front(0, 0));
            edges.due("worked on from there", 3 - folded, x.finish(0));
        }
        KeptAnswers last = Made.closed(100);
        last.fold(100);
        ask(last, "flip(t0)");
        edges.due("folded 100", 100, last.front(0, 1));
        edges.due("it can't be worked", -1, last.work(0, 1));
        edges.due("edition 99 is told", 0, last.answer(0, 99, 0, 0));
    }

    // ---- promise 15 and 16

    private void work() {
        edges.sentence(15, "A NODE's SHELF is WORKED one EDITION further: its FRONT then;");
        KeptAnswers x = new KeptAnswers();
        ask(x, "join(flip(t0),one(t1))");
        Made.close(x, 3);
        edges.due("flip", 1, x.work(0, 1));
        edges.due("flip again", 2, x.work(0, 1));
        edges.sentence(15,
            "A SHELF can be WORKED one EDITION further, if FRONTS of all its operands are above its own.");
        edges.due("the second is not above", -1, x.work(0, 4));
        edges.due("one", 1, x.work(0, 3));
        edges.due("both are above", 1, x.work(0, 4));
        edges.due("the second is as far", -1, x.work(0, 4));
        x.work(0, 3);
        x.work(0, 3);
        edges.due("both are above", 2, x.work(0, 4));
        edges.due("the first is as far", -1, x.work(0, 4));
        edges.due("flip", 3, x.work(0, 1));
        edges.due("both are above", 3, x.work(0, 4));
        edges.sentence(15, "-1: it can't be.");
        KeptAnswers none = new KeptAnswers();
        ask(none, "flip(t0)");
        edges.due("nothing is closed", -1, none.work(0, 1));
        edges.due("a table", -1, none.work(0, 0));
        none.close();
        edges.due("a table of a closed edition", -1, none.work(0, 0));
        edges.due("its front stays", 1, none.front(0, 0));
        edges.leavesAll("a table", -1, Made::busy, y -> y.work(0, 0));
        edges.leavesAll("all are done", -1, Made::busy, y -> y.work(0, 1));
        edges.leavesAll("operands are not done", -1, () -> {
            KeptAnswers y = Made.closed(1);
            ask(y, "one(flip(t0))");
            return y;
        }, y -> y.work(0, 2));
    }

    private void workToTheEnd() {
        edges.sentence(15, "-1: it can't be.");
        KeptAnswers x = new KeptAnswers();
        ask(x, "one(flip(t0))");
        x.change(0, 1, 2, 1);
        Made.close(x, 100);
        for (int front = 1; front <= 100; front++) {
            edges.due("flip " + front, front, x.work(0, 1));
            edges.due("one " + front, front, x.work(0, 2));
        }
        edges.due("the 101st", -1, x.work(0, 1));
        edges.due("the 101st", -1, x.work(0, 2));
        edges.due("edition 99", 1, x.answer(0, 99, 2, 1));
        edges.due("edition 100", NONE, x.answer(0, 100, 2, 1));
    }

    private void finish() {
        edges.sentence(16,
            "All SHELVES of a QUESTION are WORKED till all closed EDITIONS are DONE: how many times one "
            + "was.");
        KeptAnswers x = new KeptAnswers();
        ask(x, TWELVE);
        edges.due("nothing is closed", 0, x.finish(0));
        x.close();
        edges.due("each once", 11, x.finish(0));
        edges.due("nothing is left", 0, x.finish(0));
        Made.close(x, 99);
        edges.due("each 99 times", 11 * 99, x.finish(0));
        edges.due("the last front", 100, x.front(0, 11));
        edges.due("the first front", 100, x.front(0, 1));
        KeptAnswers y = Made.closed(2);
        ask(y, "join(flip(t0),flip(t0))");
        ask(y, "one(flip(t0))");
        ask(y, "t0");
        edges.due("a table has none", 0, y.finish(2));
        y.work(0, 1);
        edges.due("alike ones once; what was worked is not", 3, y.finish(0));
        edges.due("other questions' shelves are not", 0, y.front(1, 2));
        edges.due("what is done for another is not", 2, y.finish(1));
        edges.leavesAll("nothing is left", 0, Made::busy, z -> z.finish(0));
        KeptAnswers folded = Made.closed(5);
        folded.fold(3);
        ask(folded, "flip(t0)");
        edges.due("from folded on", 2, folded.finish(0));
    }

    // ---- promise 23

    private void fold() {
        edges.sentence(23, "FOLDED: 0 at first; to FOLD up to an EDITION: FOLDED becomes that,");
        KeptAnswers x = Made.closed(5);
        edges.due("0 at first", 0, x.count(6));
        edges.due("to 0", 0, x.fold(0));
        edges.due("to 1", 1, x.fold(1));
        edges.due("to 3", 3, x.fold(3));
        edges.due("FOLDED", 3, x.count(6));
        edges.sentence(23,
            "but not more than what is closed, than any SHELF's FRONT, than what any READER holds;");
        edges.due("6 of 5", 5, x.fold(6));
        edges.due("none is closed", 0, new KeptAnswers().fold(1));
        edges.due("100 of 100", 100, Made.closed(100).fold(100));
        edges.due("100 of 99", 99, Made.closed(99).fold(100));
        edges.sentence(23, "it never falls.");
        edges.due("to 0", 5, x.fold(0));
        edges.due("to 4", 5, x.fold(4));
        ask(x, "flip(t0)");
        edges.due("a new shelf does not lower it", 5, x.fold(5));
        edges.sentence(23, "FOLD up to an EDITION: FOLDED then.");
        KeptAnswers shelves = Made.closed(4);
        ask(shelves, "one(flip(t0))");
        edges.due("two shelves at 0", 0, shelves.fold(4));
        shelves.work(0, 1);
        shelves.work(0, 1);
        edges.due("one of them at 2", 0, shelves.fold(4));
        shelves.work(0, 2);
        edges.due("at 2 and at 1", 1, shelves.fold(4));
        shelves.work(0, 2);
        edges.due("both at 2", 2, shelves.fold(4));
        shelves.finish(0);
        edges.due("asked for 3", 3, shelves.fold(3));
        edges.due("both at 4", 4, shelves.fold(5));
    }

    private void foldHeld() {
        edges.sentence(23, "than what any READER holds;");
        KeptAnswers x = Made.closed(5);
        x.reader(3);
        x.reader(1);
        x.reader(100);
        edges.due("the least holds", 1, x.fold(5));
        x.gone(1);
        edges.due("the next", 3, x.fold(5));
        x.gone(0);
        edges.due("100 holds nothing", 5, x.fold(5));
        KeptAnswers ahead = Made.closed(5);
        ahead.reader(0);
        edges.due("0 is held", 0, ahead.fold(5));
        ahead.reader(5);
        ahead.gone(0);
        edges.due("what is not closed yet", 5, ahead.fold(5));
        ahead.close();
        edges.due("is held", 5, ahead.fold(6));
        KeptAnswers table = Made.closed(2);
        ask(table, "t0");
        edges.due("a table's front is what is closed", 2, table.fold(2));
    }

    private void foldNumbers() {
        edges.noSuchNumber(23, "IllegalArgumentException: it is not 0 to 100.", KeptAnswers::fold,
            -1, 101, LEAST, MOST);
        for (int edition = 0; edition <= 2; edition++) {
            int number = edition;
            edges.leavesAll("fold " + edition, 2, Made::busy, x -> x.fold(number));
        }
        edges.leavesAll("fold 100, which a reader and a shelf hold", 2, Made::busy, x -> x.fold(100));
    }

    // ---- promise 24 and 25

    private void reader() {
        edges.sentence(24, "A READER that holds an EDITION: its number;");
        KeptAnswers x = new KeptAnswers();
        edges.due("0, which is open", 0, x.reader(0));
        edges.due("100", 1, x.reader(100));
        edges.sentence(24, "READERS, numbered from 0 on, 8 at most:");
        for (int reader = 2; reader < 8; reader++) {
            edges.due("reader " + reader, reader, x.reader(0));
        }
        edges.due("the ninth", -1, x.reader(0));
        edges.due("8 hold", 8, x.count(7));
        edges.sentence(24, "-1: there are 8 (also those that are gone).");
        for (int reader = 0; reader < 8; reader++) {
            x.gone(reader);
        }
        edges.due("all are gone", -1, x.reader(0));
        edges.due("none holds", 0, x.count(7));
        edges.leavesAll("the ninth", -1, () -> Made.read(8), y -> y.reader(1));
        KeptAnswers seven = Made.read(7);
        seven.gone(6);
        edges.due("seven, one of them gone", 7, seven.reader(3));
        edges.noSuchNumber(24, "IllegalArgumentException: it is not 0 to 100, or below FOLDED less 1.",
            KeptAnswers::reader, -1, 101, LEAST, MOST, 0);
        edges.thrown("there are 8, and it is none such", Checks.ARGUMENT, () -> Made.read(8).reader(101));
    }

    private void readerHolds() {
        edges.sentence(24,
            "each holds an EDITION (TOLD or not, not below FOLDED less 1): FOLDED is that one at most;");
        for (int folded = 0; folded <= 5; folded++) {
            KeptAnswers x = Made.closed(6);
            x.fold(folded);
            int least = Math.max(0, folded - 1);
            if (least > 0) {
                edges.thrown("folded " + folded + ": below it less 1", Checks.ARGUMENT,
                    () -> x.reader(least - 1));
            }
            edges.due("folded " + folded + ": less 1", 0, x.reader(least));
            edges.due("FOLDED does not fall", folded, x.count(6));
            edges.due("nor rise", folded, x.fold(6));
            edges.due("the reader goes", least, x.gone(0));
            edges.due("and it rises", 6, x.fold(6));
        }
        KeptAnswers first = Made.closed(6);
        edges.due("nothing is folded: edition 0", 0, first.reader(0));
        first.gone(0);
        first.fold(1);
        edges.due("folded 1: edition 0", 1, first.reader(0));
    }

    private void gone() {
        edges.sentence(25, "A READER is gone: the EDITION that it held.");
        KeptAnswers x = new KeptAnswers();
        for (int reader = 0; reader < 8; reader++) {
            x.reader(reader == 7 ? 100 : reader);
        }
        for (int reader = 7; reader >= 0; reader--) {
            edges.due("reader " + reader, reader == 7 ? 100 : reader, x.gone(reader));
            edges.due("so many hold", reader, x.count(7));
        }
        edges.sentence(25, "FOLDED is that one at most; or it is gone.");
        edges.thrown("the first", Checks.INDEX, () -> x.gone(0));
        edges.thrown("the last", Checks.INDEX, () -> x.gone(7));
        edges.sentence(25, "IndexOutOfBoundsException: no such READER, or it is gone.");
        for (int reader : new int[] {-1, 0, 2, 7, 8, LEAST, MOST}) {
            edges.leavesAll("reader " + reader, Checks.INDEX, Made::busy, y -> y.gone(reader));
        }
        edges.thrown("none was", Checks.INDEX, () -> new KeptAnswers().gone(0));
        edges.thrown("a ninth", Checks.INDEX, () -> Made.read(8).gone(8));
    }

    // ---- promise 34 and 35

    private void ready() {
        edges.sentence(34, "The k-th NODE that is READY;");
        KeptAnswers x = new KeptAnswers();
        ask(x, "add(add(one(t0),one(t0)),add(flip(t0),one(t0)))");
        edges.due("nothing is closed", NONE, x.ready(0, 0));
        x.close();
        int[] ready = {1, 3, 6, 8};
        for (int k = 0; k < ready.length; k++) {
            edges.due("the " + k + "th: alike ones are nodes each", ready[k], x.ready(0, k));
        }
        edges.sentence(34, "; NONE.");
        for (int k : new int[] {-1, 4, LEAST, MOST}) {
            edges.due("k of " + k, NONE, x.ready(0, k));
        }
        edges.sentence(34, "READY is a NODE whose SHELF can be WORKED.");
        x.work(0, 1);
        edges.due("one is done on all its nodes: add is", 4, x.ready(0, 0));
        edges.due("and flip", 6, x.ready(0, 1));
        edges.due("and no more", NONE, x.ready(0, 2));
        x.finish(0);
        edges.due("all is done", NONE, x.ready(0, 0));
        edges.leavesAll("a table is never", NONE, () -> {
            KeptAnswers y = Made.closed(1);
            ask(y, "t0");
            return y;
        }, y -> y.ready(0, 0));
        edges.leavesAll("what can be worked", 2, Made::busy, y -> y.ready(2, 0));
        KeptAnswers chain = Made.closed(100);
        ask(chain, TWELVE);
        edges.due("the lowest alone", 1, chain.ready(0, 0));
        edges.due("no other", NONE, chain.ready(0, 1));
        for (int node = 1; node < 12; node++) {
            chain.work(0, node);
        }
        for (int node = 1; node < 11; node++) {
            edges.due("all are as far: the lowest alone", node == 1 ? 1 : NONE, chain.ready(0, node - 1));
        }
    }

    private void lacks() {
        edges.sentence(35,
            "LACKS of a QUESTION for an EDITION: how many times its SHELVES (each once, TABLES left out) "
            + "are to be WORKED till that EDITION is DONE on all.");
        KeptAnswers x = Made.closed(100);
        ask(x, TWELVE);
        ask(x, "t0");
        ask(x, "join(flip(t0),flip(t0))");
        edges.due("edition 0", 11, x.lacks(0, 0));
        edges.due("edition 99", 1100, x.lacks(0, 99));
        edges.due("a table", 0, x.lacks(1, 99));
        edges.due("alike ones once", 200, x.lacks(2, 99));
        x.work(0, 1);
        x.work(0, 1);
        edges.due("what is done further does not count", 10, x.lacks(0, 0));
        edges.due("edition 1", 20, x.lacks(0, 1));
        edges.due("edition 2", 31, x.lacks(0, 2));
        edges.due("so often it is worked", 1098, x.finish(0));
        edges.due("nothing lacks", 0, x.lacks(0, 99));
        edges.due("nor for the first", 0, x.lacks(0, 0));
        edges.due("but for join", 100, x.lacks(2, 99));
        edges.sentence(35, "LACKS; NONE: that EDITION is not closed.");
        for (int edition : new int[] {-1, 100, 101, LEAST, MOST}) {
            edges.due("edition " + edition, NONE, x.lacks(0, edition));
        }
        edges.due("none is closed", NONE, x.lacks(1, 100));
        KeptAnswers none = new KeptAnswers();
        ask(none, "flip(t0)");
        edges.due("edition 0 is open", NONE, none.lacks(0, 0));
        edges.leavesAll("asking leaves all as it was", 1, Made::busy, y -> y.lacks(2, 2));
        KeptAnswers folded = Made.closed(4);
        folded.fold(2);
        ask(folded, "flip(t0)");
        edges.due("what is folded away is done", 0, folded.lacks(0, 0));
        edges.due("so is the one ahead of folded", 0, folded.lacks(0, 1));
        edges.due("but not the next", 1, folded.lacks(0, 2));
    }

    // ---- what these calls refuse

    private void refused() {
        edges.noSuchQuestion(11, KeptAnswers::leave);
        edges.noSuchQuestion(12, KeptAnswers::nodes);
        edges.noSuchQuestion(13, (x, q) -> x.shelf(q, 0));
        edges.noSuchQuestion(14, (x, q) -> x.front(q, 0));
        edges.noSuchQuestion(15, (x, q) -> x.work(q, 1));
        edges.noSuchQuestion(16, KeptAnswers::finish);
        edges.noSuchQuestion(34, (x, q) -> x.ready(q, 0));
        edges.noSuchQuestion(35, (x, q) -> x.lacks(q, 0));
        edges.noSuchNode(13, (x, node) -> x.shelf(1, node));
        edges.noSuchNode(14, (x, node) -> x.front(1, node));
        edges.noSuchNode(15, (x, node) -> x.work(1, node));
        edges.sentence(13, "IndexOutOfBoundsException: no such NODE (so below).");
        KeptAnswers twelve = new KeptAnswers();
        ask(twelve, TWELVE);
        edges.due("node 11 of 12", 11, twelve.shelf(0, 11));
        edges.thrown("node 12 of 12", Checks.INDEX, () -> twelve.shelf(0, 12));
        edges.leavesAll("asking leaves all as it was", 5, Made::busy, x -> x.nodes(1));
        edges.leavesAll("asking leaves all as it was", 4, Made::busy, x -> x.shelf(1, 4));
        edges.leavesAll("asking leaves all as it was", 2, Made::busy, x -> x.front(2, 2));
    }
}
