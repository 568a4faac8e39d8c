/** The edges of tables, changes and editions: promises 1 to 7 and 36 to 38. */
final class EditionEdges {
    private static final int NONE = Edges.NONE;
    private static final int LEAST = Edges.LEAST;
    private static final int MOST = Edges.MOST;
    private static final int[] NO_TABLES = {-1, 4, LEAST, MOST};
    private static final int[] NO_SIDES = {-1, 16, LEAST, MOST};

    private final Edges edges;

    EditionEdges(Edges edges) {
        this.edges = edges;
    }

    void all() {
        aNewObject();
        lastCall();
        changeTables();
        changeRows();
        changeMore();
        changeFull();
        owed();
        late();
        lateArguments();
        lateFull();
        room();
        drop();
        close();
        rows();
        rowsArguments();
        told();
        back();
        count();
    }

    // ---- promise 1

    private void aNewObject() {
        edges.sentence(1, "EDITION 0 is OPEN");
        KeptAnswers x = new KeptAnswers();
        edges.thrown("edition 0 is not closed", Checks.ARGUMENT, () -> x.late(0, 0, 0, 1, 0));
        edges.due("the first change", 1, x.change(0, 0, 0, 1));
        edges.due("is of edition 0", 0, x.told(0, 4));
        edges.due("edition 0 is closed first", 1, x.close());
        edges.sentence(1, "; nothing else.");
        KeptAnswers y = new KeptAnswers();
        for (int what = 0; what <= 8; what++) {
            edges.due("count " + what, 0, y.count(what));
        }
        edges.due("no fault", NONE, y.fault());
        edges.due("no room", 0, y.room(0));
        edges.due("nothing to drop", 0, y.drop());
        edges.due("nothing to take back", 0, y.back());
        edges.due("nothing to fold", 0, y.fold(100));
        edges.thrown("no change", Checks.INDEX, () -> y.told(0, 0));
        edges.thrown("no question", Checks.ELEMENT, () -> y.nodes(0));
        edges.thrown("no reader", Checks.INDEX, () -> y.gone(0));
        edges.thrown("no byte", Checks.ARGUMENT, () -> y.question(1));
        edges.thrown("no edition but 0", Checks.ARGUMENT, () -> y.rows(0, 0, 0, 1));
        for (int corner : new int[] {0x00, 0x0F, 0xF0, 0xFF}) {
            for (int table = 0; table < 4; table++) {
                edges.due("no row", 0, y.rows(table, corner / 16, corner % 16, 0));
            }
        }
        x.change(1, 1, 1, 1);
        edges.due("what another object was told is not here", 0, new KeptAnswers().count(1));
        edges.sentence(1, "public static final int NONE = -1;");
        edges.due("NONE", -1, KeptAnswers.NONE);
        edges.sentence(1, "What is not TOLD.");
        edges.due("VOID", LEAST, KeptAnswers.VOID);
    }

    private void lastCall() {
        edges.sentence(1, "An object is used for at most 512 calls after it has been made");
        KeptAnswers x = Made.told(400);
        Made.close(x, 100);
        Checks.ask(x, "one(t3)");
        x.finish(0);
        for (int call = 505; call < 512; call++) {
            edges.due("call " + call, 1, x.answer(0, 99, 15, 5));
        }
        edges.due("the 512th call", 1, x.answer(0, 99, 15, 5));
    }

    // ---- promise 2

    private void changeTables() {
        edges.sentence(2, "TABLES 0 to 3 have ROWS (A, B)");
        for (int table = 0; table < 4; table++) {
            KeptAnswers x = new KeptAnswers();
            edges.due("table " + table, 1, x.change(table, 4, 5, 6));
            for (int other = 0; other < 4; other++) {
                edges.due("count in " + other, other == table ? 6 : 0, x.rows(other, 4, 5, 0));
            }
        }
        edges.sentence(2, "IndexOutOfBoundsException: no such TABLE (so below)");
        for (int table : NO_TABLES) {
            edges.leavesAll("table " + table, Checks.INDEX, Made::busy, x -> x.change(table, 0, 0, 1));
        }
    }

    private void changeRows() {
        edges.sentence(2, "A and B 0 to 15,");
        for (int corner : new int[] {0x00, 0x0F, 0xF0, 0xFF}) {
            KeptAnswers x = new KeptAnswers();
            edges.due("row " + corner, 1, x.change(0, corner / 16, corner % 16, 1));
            for (int other : new int[] {0x00, 0x0F, 0xF0, 0xFF}) {
                edges.due("count of " + other, other == corner ? 1 : 0,
                    x.rows(0, other / 16, other % 16, 0));
            }
        }
        edges.sentence(2, "IllegalArgumentException: A, B, or how many.");
        for (int side : NO_SIDES) {
            edges.leavesAll("A " + side, Checks.ARGUMENT, Made::busy, x -> x.change(0, side, 0, 1));
            edges.leavesAll("B " + side, Checks.ARGUMENT, Made::busy, x -> x.change(0, 0, side, 1));
        }
        for (int more : new int[] {-10, 0, 10, LEAST, MOST}) {
            edges.leavesAll("more " + more, Checks.ARGUMENT, Made::busy, x -> x.change(0, 0, 0, more));
        }
    }

    private void changeMore() {
        edges.sentence(2, "A CHANGE of the OPEN EDITION: a TABLE, a ROW, how many more (-9 to 9, not 0);");
        KeptAnswers x = new KeptAnswers();
        int told = 0;
        for (int more = -9; more <= 9; more++) {
            if (more != 0) {
                edges.due(more + " more", ++told, x.change(0, 3, more + 9 - (more > 0 ? 3 : 0), more));
                edges.due(more + " more, told", more, x.told(told - 1, 3));
            }
        }
        edges.due("the row of -9", -9, x.rows(0, 3, 0, 0));
        edges.due("the row of 9", 9, x.rows(0, 3, 15, 0));
    }

    private void changeFull() {
        edges.sentence(2, "A CHANGE: how many were told;");
        KeptAnswers x = new KeptAnswers();
        for (int i = 1; i <= 398; i++) {
            edges.due("change " + i, i, x.change(i % 4, i % 16, 15 - i % 16, 9));
        }
        x.close();
        edges.due("those of closed editions too", 399, x.change(0, 0, 0, 1));
        edges.sentence(2, "400 at most are told.");
        edges.due("the 400th", 400, x.change(0, 0, 0, 1));
        edges.due("the 401st", -1, x.change(0, 0, 0, 1));
        edges.due("it is not told", 400, x.count(1));
        edges.due("nor counted", 2, x.rows(0, 0, 0, 1));
        x.back();
        edges.due("one was taken back: the 400th again", 400, x.change(1, 0, 0, 1));
        edges.due("and no more", -1, x.change(1, 0, 0, 1));
        x.drop();
        edges.due("two were dropped", 399, x.change(1, 0, 0, 1));
        edges.sentence(2, "-1: 400.");
        edges.leavesAll("the 401st", -1, () -> Made.told(400), y -> y.change(0, 0, 0, 1));
        edges.thrown("a wrong one is thrown also then", Checks.INDEX,
            () -> Made.told(400).change(4, 0, 0, 1));
    }

    private void owed() {
        edges.sentence(2, "each with a COUNT (0 at first; below 0 it is OWED).");
        KeptAnswers x = new KeptAnswers();
        edges.due("0 at first", 0, x.rows(1, 6, 7, 0));
        x.change(1, 6, 7, -1);
        edges.due("one is owed", -1, x.rows(1, 6, 7, 0));
        x.change(1, 6, 7, 1);
        edges.due("none is owed", 0, x.rows(1, 6, 7, 0));
        for (int i = 0; i < 398; i++) {
            x.change(2, 6, 7, -9);
        }
        edges.due("as many as can be", -3582, x.rows(2, 6, 7, 0));
    }

    // ---- promise 3

    private void late() {
        edges.sentence(3, "if that is ROOM EDITIONS or fewer (0 to 10; 0 at first) ahead of the OPEN one,");
        for (int room = 0; room <= 10; room++) {
            KeptAnswers x = Made.closed(12);
            x.room(room);
            for (int ahead = 1; ahead <= 12; ahead++) {
                edges.due(ahead + " ahead, room " + room, ahead <= room ? 1 : 0,
                    x.late(0, 1, 1, 1, 12 - ahead));
            }
            edges.due("told with room " + room, room, x.count(3));
        }
        KeptAnswers first = Made.closed(1);
        edges.due("0 at first: edition 0 is too late", 0, first.late(0, 0, 0, 1, 0));
        KeptAnswers last = Made.closed(100);
        last.room(10);
        edges.due("90 of 100", 1, last.late(0, 0, 0, 1, 90));
        edges.due("89 of 100", 0, last.late(0, 0, 0, 1, 89));
        edges.sentence(3, "A LATE CHANGE for an EDITION: 1;");
        edges.due("99 of 100", 1, last.late(3, 15, 15, -9, 99));
        edges.sentence(3, "it is a CHANGE of the OPEN one.");
        edges.due("its edition", 100, last.told(1, 4));
        edges.due("its count", -9, last.rows(3, 15, 15, 100));
        edges.due("as of what it was told for", 0, last.rows(3, 15, 15, 99));
        edges.due("it is of the open edition", 2, last.count(2));
        edges.sentence(3, "0, and nothing is told: it is too late;");
        edges.leavesAll("3 ahead, room 2", 0, Made::busy, x -> x.late(0, 1, 2, 1, 0));
    }

    private void lateArguments() {
        edges.sentence(3, "A LATE CHANGE is told for a closed EDITION:");
        KeptAnswers x = new KeptAnswers();
        x.room(10);
        edges.thrown("none is closed", Checks.ARGUMENT, () -> x.late(0, 0, 0, 1, 0));
        x.close();
        edges.due("the first is closed", 1, x.late(0, 0, 0, 1, 0));
        edges.sentence(3, "IllegalArgumentException: also an EDITION that is not closed.");
        for (int edition : new int[] {-1, 3, 4, 100, LEAST, MOST}) {
            edges.leavesAll("edition " + edition, Checks.ARGUMENT, Made::busy,
                y -> y.late(0, 0, 0, 1, edition));
        }
        for (int side : NO_SIDES) {
            edges.leavesAll("A " + side, Checks.ARGUMENT, Made::busy, y -> y.late(0, side, 0, 1, 2));
            edges.leavesAll("B " + side, Checks.ARGUMENT, Made::busy, y -> y.late(0, 0, side, 1, 2));
        }
        for (int more : new int[] {-10, 0, 10, LEAST, MOST}) {
            edges.leavesAll("more " + more, Checks.ARGUMENT, Made::busy, y -> y.late(0, 0, 0, more, 2));
        }
        for (int more : new int[] {-9, -1, 1, 9}) {
            edges.due("more " + more, 1, x.late(3, 15, 15, more, 0));
        }
        edges.sentence(3, "IndexOutOfBoundsException: no such TABLE (so below)");
        for (int table : NO_TABLES) {
            edges.leavesAll("table " + table, Checks.INDEX, Made::busy, y -> y.late(table, 0, 0, 1, 2));
        }
    }

    private void lateFull() {
        edges.sentence(3, "-1: 400 were told.");
        KeptAnswers x = Made.told(398);
        x.close();
        x.room(1);
        edges.due("the 399th", 1, x.late(0, 0, 0, 1, 0));
        edges.due("the 400th", 1, x.late(0, 0, 0, 1, 0));
        edges.due("the 401st", -1, x.late(0, 0, 0, 1, 0));
        edges.due("late ones are told", -1, x.change(0, 0, 0, 1));
        edges.due("told", 400, x.count(1));
        x.drop();
        edges.due("two were dropped", 1, x.late(0, 0, 0, 1, 0));
        edges.leavesAll("the 401st", -1, () -> {
            KeptAnswers full = Made.told(400);
            full.close();
            full.room(1);
            return full;
        }, y -> y.late(0, 0, 0, 1, 0));
    }

    // ---- promise 4

    private void room() {
        edges.sentence(4, "ROOM: what it was.");
        KeptAnswers x = new KeptAnswers();
        edges.due("0 at first", 0, x.room(0));
        for (int room = 1; room <= 10; room++) {
            edges.due("room " + room, room - 1, x.room(room));
        }
        edges.due("10", 10, x.room(10));
        edges.due("10 again", 10, x.room(0));
        edges.sentence(4, "IllegalArgumentException: it is none such.");
        for (int room : new int[] {-1, 11, LEAST, MOST}) {
            edges.leavesAll("room " + room, Checks.ARGUMENT, Made::busy, y -> y.room(room));
        }
        edges.sentence(4, "if that is ROOM EDITIONS or fewer (0 to 10; 0 at first) ahead of the OPEN one,");
        KeptAnswers less = Made.closed(2);
        less.room(2);
        less.late(0, 0, 0, 1, 0);
        less.room(1);
        edges.due("what was told with more room stays", 1, less.count(3));
        edges.due("no more for that edition", 0, less.late(0, 0, 0, 1, 0));
        edges.due("but for the next", 1, less.late(0, 0, 0, 1, 1));
    }

    // ---- promise 5

    private void drop() {
        edges.sentence(5, "The CHANGES of the OPEN EDITION are DROPPED: how many.");
        KeptAnswers x = new KeptAnswers();
        edges.due("none were told", 0, x.drop());
        x.change(0, 1, 1, 5);
        edges.due("one", 1, x.drop());
        edges.due("none is left", 0, x.drop());
        edges.due("the row is as at first", 0, x.rows(0, 1, 1, 0));
        edges.due("all 400", 400, Made.told(400).drop());
        edges.sentence(5, "CHANGES of the OPEN EDITION can be DROPPED.");
        x.change(0, 1, 1, 5);
        x.close();
        edges.leavesAll("those of a closed edition stay", 0, () -> Made.closed(2), KeptAnswers::drop);
        edges.due("none of them is dropped", 0, x.drop());
        edges.due("its count stays", 5, x.rows(0, 1, 1, 1));
        x.room(1);
        x.late(0, 1, 1, -2, 0);
        x.change(0, 1, 1, 1);
        edges.due("late ones, too", 2, x.drop());
        edges.due("its count stays", 5, x.rows(0, 1, 1, 1));
        edges.due("one is told", 1, x.count(1));
        edges.thrown("what was dropped is no change", Checks.INDEX, () -> x.told(1, 0));
    }

    // ---- promise 6

    private void close() {
        edges.sentence(6, "The OPEN EDITION is closed: the number of the one that is OPEN then.");
        KeptAnswers x = new KeptAnswers();
        x.change(0, 0, 0, 1);
        for (int i = 1; i <= 99; i++) {
            edges.due("close " + i, i, x.close());
        }
        edges.sentence(6, "EDITIONS, numbered from 0 on: one is OPEN; 100 at most are closed.");
        x.change(0, 0, 0, 2);
        edges.due("the 100th", 100, x.close());
        edges.due("100 are closed", 100, x.count(0));
        x.change(0, 0, 0, 3);
        edges.due("one is open still: its change", 100, x.told(2, 4));
        edges.due("as of 98", 1, x.rows(0, 0, 0, 98));
        edges.due("as of 99", 3, x.rows(0, 0, 0, 99));
        edges.due("as of 100", 6, x.rows(0, 0, 0, 100));
        edges.due("it can be taken back", 1, x.back());
        edges.sentence(6, "IllegalStateException: 100 are closed.");
        edges.thrown("the 101st", Checks.STATE, x::close);
        edges.thrown("and again", Checks.STATE, x::close);
        edges.leavesAll("the 101st", Checks.STATE, () -> {
            KeptAnswers full = Made.closed(100);
            full.change(0, 0, 0, 1);
            return full;
        }, KeptAnswers::close);
    }

    // ---- promise 7

    private void rows() {
        edges.sentence(7, "COUNT of a ROW as of an EDITION: all CHANGES of it up to that together.");
        KeptAnswers x = new KeptAnswers();
        int together = 0;
        for (int edition = 0; edition < 9; edition++) {
            x.change(3, 15, 0, edition + 1);
            x.change(3, 15, 0, -2);
            x.change(3, 0, 15, 9);
            x.close();
        }
        for (int edition = 0; edition < 9; edition++) {
            together += edition - 1;
            edges.due("edition " + edition, together, x.rows(3, 15, 0, edition));
        }
        edges.due("the open one has none of its own", together, x.rows(3, 15, 0, 9));
        x.change(3, 15, 0, 5);
        edges.due("the open one", together + 5, x.rows(3, 15, 0, 9));
        edges.due("the one ahead is as it was", together, x.rows(3, 15, 0, 8));
        KeptAnswers many = new KeptAnswers();
        for (int i = 0; i < 400; i++) {
            many.change(0, 0, 0, 9);
        }
        edges.due("400 times 9", 3600, many.rows(0, 0, 0, 0));
        edges.sentence(7, "COUNT of a ROW of a TABLE as of an EDITION (0 up to the OPEN one).");
        KeptAnswers last = Made.closed(100);
        edges.due("edition 0 of 100", 0, last.rows(0, 0, 0, 0));
        edges.due("edition 100 of 100", 0, last.rows(0, 0, 0, 100));
        edges.due("edition 0, folded away", 2, Made.busy().rows(0, 1, 2, 0));
    }

    private void rowsArguments() {
        edges.sentence(7, "IllegalArgumentException: A, B, EDITION.");
        for (int side : NO_SIDES) {
            edges.leavesAll("A " + side, Checks.ARGUMENT, Made::busy, x -> x.rows(0, side, 0, 0));
            edges.leavesAll("B " + side, Checks.ARGUMENT, Made::busy, x -> x.rows(0, 0, side, 0));
        }
        for (int edition : new int[] {-1, 4, 100, LEAST, MOST}) {
            edges.leavesAll("edition " + edition, Checks.ARGUMENT, Made::busy,
                x -> x.rows(0, 0, 0, edition));
        }
        edges.thrown("edition 101 of 100", Checks.ARGUMENT, () -> Made.closed(100).rows(0, 0, 0, 101));
        edges.sentence(7, "IndexOutOfBoundsException: no such TABLE (so below)");
        for (int table : NO_TABLES) {
            edges.leavesAll("table " + table, Checks.INDEX, Made::busy, x -> x.rows(table, 0, 0, 0));
        }
        edges.leavesAll("a right one", -2, Made::busy, x -> x.rows(0, 2, 3, 3));
    }

    // ---- promise 36

    private void told() {
        edges.sentence(36,
            "Of a CHANGE: 0 TABLE, 1 A, 2 B, 3 how many more, 4 its EDITION, 5 whether it is LATE (1, 0).");
        KeptAnswers x = Made.closed(99);
        x.room(1);
        x.change(3, 15, 0, -9);
        x.late(0, 0, 15, 9, 98);
        x.close();
        x.change(2, 7, 8, 1);
        int[][] want = {{3, 15, 0, -9, 99, 0}, {0, 0, 15, 9, 99, 1}, {2, 7, 8, 1, 100, 0}};
        for (int i = 0; i < want.length; i++) {
            for (int what = 0; what <= 5; what++) {
                edges.due("change " + i + ", " + what, want[i][what], x.told(i, what));
            }
        }
        edges.sentence(36, "IllegalArgumentException: another what.");
        for (int what : new int[] {-1, 6, LEAST, MOST}) {
            edges.leavesAll("what " + what, Checks.ARGUMENT, Made::busy, y -> y.told(0, what));
        }
        edges.sentence(36, "IndexOutOfBoundsException: no such CHANGE;");
        for (int change : new int[] {-1, 9, 400, LEAST, MOST}) {
            edges.leavesAll("change " + change, Checks.INDEX, Made::busy, y -> y.told(change, 0));
        }
        edges.leavesAll("the latest one", 2, Made::busy, y -> y.told(8, 0));
        edges.sentence(36, "CHANGES told are numbered from 0 on;");
        KeptAnswers full = Made.told(400);
        edges.due("the first", 0, full.told(0, 0));
        edges.due("the last", 3, full.told(399, 0));
        edges.thrown("behind the last", Checks.INDEX, () -> full.told(400, 0));
        full.back();
        edges.thrown("what was taken back", Checks.INDEX, () -> full.told(399, 0));
        full.change(0, 9, 9, 9);
        edges.due("its number is another's", 0, full.told(399, 0));
        full.drop();
        edges.thrown("what was dropped", Checks.INDEX, () -> full.told(0, 0));
    }

    // ---- promise 37

    private void back() {
        edges.sentence(37, "The latest CHANGE is taken BACK: 1;");
        KeptAnswers x = new KeptAnswers();
        x.change(0, 1, 1, 4);
        x.change(0, 1, 1, 5);
        edges.due("the second", 1, x.back());
        edges.due("its row", 4, x.rows(0, 1, 1, 0));
        edges.due("the first", 1, x.back());
        edges.due("its row", 0, x.rows(0, 1, 1, 0));
        edges.sentence(37, "0: there is none of the OPEN EDITION.");
        edges.due("none is left", 0, x.back());
        edges.leavesAll("a new object", 0, KeptAnswers::new, KeptAnswers::back);
        edges.leavesAll("the latest is of a closed edition", 0, () -> {
            KeptAnswers y = Made.busy();
            y.close();
            return y;
        }, KeptAnswers::back);
        edges.sentence(37, "the latest one, if it is of the OPEN EDITION, can be taken BACK.");
        KeptAnswers late = new KeptAnswers();
        late.change(0, 1, 1, 1);
        late.close();
        late.room(1);
        late.change(0, 2, 2, 2);
        late.late(0, 1, 1, 3, 0);
        edges.due("a late one", 1, late.back());
        edges.due("none is late", 0, late.count(3));
        edges.due("its row", 1, late.rows(0, 1, 1, 1));
        edges.due("the one ahead of it", 1, late.back());
        edges.due("that of edition 0 stays", 0, late.back());
        edges.due("one is told", 1, late.count(1));
        KeptAnswers full = Made.told(400);
        int times = 0;
        while (times < 100 && full.back() == 1) {
            times++;
        }
        edges.due("100 of 400", 300, full.count(1));
    }

    // ---- promise 38

    private void count() {
        edges.sentence(38,
            "0 EDITIONS closed, 1 CHANGES told, 2 those of the OPEN EDITION, 3 LATE ones, 4 QUESTIONS "
            + "(not LEFT), 5 SHELVES that are, 6 FOLDED, 7 READERS that hold, 8 bytes of the TAPE;");
        int[] want = {3, 9, 3, 2, 3, 6, 2, 1, 20};
        for (int what = 0; what <= 8; what++) {
            int number = what;
            edges.leavesAll("count " + what, want[what], Made::busy, x -> x.count(number));
        }
        edges.due("100 editions", 100, Made.closed(100).count(0));
        edges.due("400 changes", 400, Made.told(400).count(1));
        edges.due("400 of the open edition", 400, Made.told(400).count(2));
        edges.due("8 readers", 8, Made.read(8).count(7));
        edges.due("200 bytes", 200, Made.fed(10).count(8));
        KeptAnswers late = Made.closed(1);
        late.room(1);
        for (int i = 0; i < 400; i++) {
            late.late(0, 0, 0, 1, 0);
        }
        edges.due("400 late ones", 400, late.count(3));
        countFullQuestions();
        edges.sentence(38, "NONE for others.");
        for (int what : new int[] {-1, 9, 10, LEAST, MOST}) {
            edges.leavesAll("count " + what, NONE, Made::busy, x -> x.count(what));
        }
        edges.sentence(38, "(What was DROPPED is told no more, also of the LATE ones.)");
        KeptAnswers x = Made.busy();
        x.drop();
        edges.due("told", 6, x.count(1));
        edges.due("of the open edition", 0, x.count(2));
        edges.due("late: that of edition 2 is told still", 1, x.count(3));
    }

    private void countFullQuestions() {
        KeptAnswers x = new KeptAnswers();
        String[] chains = {"flip", "one", "count", "sum", "least", "most"};
        for (String word : chains) {
            Checks.ask(x, (word + "(").repeat(11) + "t0" + ")".repeat(11));
        }
        edges.due("6 questions", 6, x.count(4));
        edges.due("11 shelves each, and the table's", 67, x.count(5));
        for (int q = 0; q < 5; q++) {
            x.leave(q);
        }
        edges.due("one question", 1, x.count(4));
        edges.due("its shelves", 12, x.count(5));
        x.leave(5);
        edges.due("no question", 0, x.count(4));
        edges.due("no shelf", 0, x.count(5));
    }
}
