/** Objects as the tests need them. */
final class Made {
    private Made() {
    }

    /** One more of each row of table 0, given as 16 A and B. */
    static void tell(KeptAnswers x, int... cells) {
        tellOf(x, 0, cells);
    }

    static void tellOf(KeptAnswers x, int table, int... cells) {
        for (int cell : cells) {
            x.change(table, cell / 16, cell % 16, 1);
        }
    }

    /** So many more of a row, by as few changes as it takes. */
    static void tellMany(KeptAnswers x, int table, int a, int b, int many) {
        int left = many;
        while (left != 0) {
            int more = Math.max(-9, Math.min(9, left));
            x.change(table, a, b, more);
            left -= more;
        }
    }

    static void close(KeptAnswers x, int times) {
        for (int i = 0; i < times; i++) {
            x.close();
        }
    }

    static KeptAnswers closed(int times) {
        KeptAnswers x = new KeptAnswers();
        close(x, times);
        return x;
    }

    static KeptAnswers told(int times) {
        KeptAnswers x = new KeptAnswers();
        for (int i = 0; i < times; i++) {
            x.change(i % 4, i / 4 % 16, i / 64 % 16, 1 + i % 9);
        }
        return x;
    }

    static KeptAnswers fed(int times) {
        KeptAnswers x = new KeptAnswers();
        for (int i = 0; i < times; i++) {
            x.feed(0x74302020, 0x20202020, 0x20202020, 0x20202020, 0x20202020);
        }
        return x;
    }

    static KeptAnswers read(int times) {
        KeptAnswers x = new KeptAnswers();
        for (int i = 0; i < times; i++) {
            x.reader(i);
        }
        return x;
    }

    /** Table 0 has one of each row in edition 0, and the text is question 0, worked. */
    static KeptAnswers done(String text, int... cells) {
        KeptAnswers x = new KeptAnswers();
        tell(x, cells);
        x.close();
        Checks.ask(x, text);
        x.finish(0);
        return x;
    }

    /**
     * Some of everything. Three editions are closed, the first is folded away, three changes are
     * of the open one. Questions 0, 1, 2 stand (2 is done up to edition 1), 3 was left. Reader 1
     * holds edition 2, reader 0 is gone. There was a fault at 2; a text is on the tape.
     */
    static KeptAnswers busy() {
        KeptAnswers x = new KeptAnswers();
        x.change(0, 1, 2, 2);
        x.change(0, 2, 3, 1);
        x.change(1, 3, 4, 1);
        x.close();
        x.change(0, 3, 1, 1);
        x.close();
        x.room(2);
        x.late(0, 2, 3, -3, 0);
        x.change(1, 3, 4, -2);
        x.close();
        Checks.ask(x, "loop(t0)");
        Checks.ask(x, "add(loop(t0),flip(t1))");
        Checks.ask(x, "less(t1,t0)");
        Checks.ask(x, "one(t2)");
        x.leave(3);
        x.finish(0);
        x.finish(1);
        x.work(2, 2);
        x.work(2, 2);
        x.reader(1);
        x.reader(2);
        x.gone(0);
        x.fold(2);
        x.change(0, 5, 5, 1);
        x.late(1, 5, 6, 2, 1);
        x.change(2, 7, 7, -4);
        Checks.ask(x, "t0(");
        Checks.feed(x, "one(t2)");
        return x;
    }
}
