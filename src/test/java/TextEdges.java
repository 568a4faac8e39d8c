/** The edges of the tape, of texts and of their faults: promises 8 to 10. */
final class TextEdges {
    private static final int NONE = Edges.NONE;
    private static final int LEAST = Edges.LEAST;
    private static final int MOST = Edges.MOST;
    private static final int FINE = 0;

    private final Edges edges;

    TextEdges(Edges edges) {
        this.edges = edges;
    }

    void all() {
        feed();
        tapeFull();
        questionNumbers();
        questionBytes();
        questionFull();
        operators();
        tables();
        conditions();
        numbers();
        words();
        blanks();
        twelveOperators();
        sixOpen();
        cannotStand();
        endsTooEarly();
        everyByte();
        firstFromTheLeft();
        ofOneTheLeast();
        faultOfTheLatest();
    }

    /** What a text alone is on a new object: FINE, or a fault of a kind (1 to 3) at a place. */
    private void textDue(String text, int kind, int place) {
        KeptAnswers x = new KeptAnswers();
        edges.due("'" + text + "'", kind == FINE ? 0 : kind - 10, Checks.ask(x, text));
        edges.due("the fault's place in '" + text + "'", kind == FINE ? NONE : place, x.fault());
        edges.due("questions by '" + text + "'", kind == FINE ? 1 : 0, x.count(4));
        edges.due("shelves by '" + text + "'", kind == FINE ? 1 : 0, Math.min(1, x.count(5)));
    }

    private void fine(String... texts) {
        for (String text : texts) {
            textDue(text, FINE, NONE);
        }
    }

    private static String where(String condition) {
        return "where(t0:" + condition + ")";
    }

    /** For how many rows a condition holds. */
    private static int holdsFor(String condition) {
        KeptAnswers x = new KeptAnswers();
        for (int cell = 0; cell < 256; cell++) {
            x.change(0, cell / 16, cell % 16, 1);
        }
        x.close();
        Checks.ask(x, where(condition));
        x.finish(0);
        return x.size(0, 0);
    }

    // ---- promise 8

    private void feed() {
        edges.sentence(8, "Twenty bytes come on the TAPE, of each number the highest first:");
        // of 20 bytes, 19 are blanks: t and 3 must stand together wherever the numbers meet
        for (int at = 0; at < 19; at++) {
            int[] n = new int[5];
            for (int i = 0; i < 20; i++) {
                n[i / 4] = n[i / 4] << 8 | (i == at ? 't' : i == at + 1 ? '3' : ' ');
            }
            KeptAnswers x = new KeptAnswers();
            x.feed(n[0], n[1], n[2], n[3], n[4]);
            edges.due("t3 at " + at, 0, x.question(20));
        }
        KeptAnswers high = new KeptAnswers();
        high.feed(0xF4B30000, 0, 0, 0, 0);
        edges.due("bytes above 127 are no letters", -9, high.question(2));
        KeptAnswers all = new KeptAnswers();
        edges.due("the least number", 20, all.feed(LEAST, LEAST, LEAST, LEAST, LEAST));
        edges.due("the greatest", 40, all.feed(MOST, MOST, MOST, MOST, MOST));
        edges.due("-1", 60, all.feed(-1, -1, -1, -1, -1));
        edges.sentence(8, "how many there are;");
        KeptAnswers x = new KeptAnswers();
        for (int i = 1; i <= 10; i++) {
            edges.due("feed " + i, 20 * i, x.feed(0, 0, 0, 0, 0));
            edges.due("bytes of the tape", 20 * i, x.count(8));
        }
    }

    private void tapeFull() {
        edges.sentence(8, "NONE, doing nothing, if there would be more than 200.");
        KeptAnswers x = Made.fed(10);
        edges.due("220", NONE, x.feed(-1, -1, -1, -1, -1));
        edges.due("still 200", 200, x.count(8));
        edges.leavesAll("220", NONE, () -> Made.fed(10), y -> y.feed(-1, -1, -1, -1, -1));
        edges.due("the bytes are as they were", 0, x.question(20));
        edges.due("empty again", 20, x.feed(0, 0, 0, 0, 0));
    }

    // ---- promise 9

    private void questionNumbers() {
        edges.sentence(9, "QUESTIONS, numbered from 0 on, 6 at most,");
        KeptAnswers x = new KeptAnswers();
        for (int q = 0; q < 6; q++) {
            edges.due("a fault takes no number", -9, Checks.ask(x, "t"));
            edges.due("question " + q, q, Checks.ask(x, "t" + q % 4));
        }
        edges.due("the seventh", -1, Checks.ask(x, "t0"));
        edges.due("there are 6", 6, x.count(4));
        edges.thrown("it is none", Checks.ELEMENT, () -> x.nodes(6));
        edges.due("the sixth is as it was", 1, x.nodes(5));
        edges.sentence(9, "-1: there are 6 (also those that were LEFT).");
        for (int q = 0; q < 6; q++) {
            x.leave(q);
        }
        edges.due("all were left", -1, Checks.ask(x, "t0"));
        edges.due("no question", 0, x.count(4));
        edges.due("no shelf", 0, x.count(5));
        KeptAnswers five = new KeptAnswers();
        for (int q = 0; q < 5; q++) {
            Checks.ask(five, "t0");
            five.leave(q);
        }
        edges.due("five were left", 5, Checks.ask(five, "t0"));
    }

    private void questionBytes() {
        edges.sentence(9, "The first n bytes of the TAPE (empty then) are a QUESTION: its number,");
        String text = "flip(t0)            ";
        for (int n = 8; n <= 20; n++) {
            KeptAnswers x = new KeptAnswers();
            Checks.feed(x, text);
            edges.due("n of " + n, 0, x.question(n));
            edges.due("empty then", 0, x.count(8));
        }
        KeptAnswers x = new KeptAnswers();
        Checks.feed(x, "t0t0");
        edges.due("what stands behind them is not read", 0, x.question(2));
        edges.due("nor is it kept", 0, x.count(8));
        Checks.feed(x, "t1");
        edges.due("the next text begins anew", 1, x.question(2));
        Checks.feed(x, "t9");
        edges.due("a fault", -8, x.question(2));
        edges.due("empty then, too", 0, x.count(8));
        edges.due("no bytes of none", -9, x.question(0));
        edges.due("its place", 0, x.fault());
        Checks.feed(x, "t1");
        edges.due("no bytes of twenty", -9, x.question(0));
        edges.due("its place", 0, x.fault());
        edges.due("empty then", 0, x.count(8));
        for (String behind : "[ ] not a < 1 or and ) , :".split(" ")) {
            KeptAnswers y = new KeptAnswers();
            Checks.feed(y, "where(t0:[[[[[[" + behind + behind);
            edges.due("what stands behind is not read: " + behind, -9, y.question(15));
            edges.due("its place", 15, y.fault());
        }
        edges.sentence(9, "IllegalArgumentException: n is not 0 to the TAPE's bytes (it stays).");
        for (int n : new int[] {-1, 21, 200, 201, LEAST, MOST}) {
            edges.leavesAll("n of " + n + ", 20 bytes", Checks.ARGUMENT, Made::busy, y -> y.question(n));
        }
        edges.leavesAll("n of 1, none", Checks.ARGUMENT, KeptAnswers::new, y -> y.question(1));
        edges.leavesAll("n of 201, 200 bytes", Checks.ARGUMENT, () -> Made.fed(10), y -> y.question(201));
        edges.thrown("there are 6, and n is wrong", Checks.ARGUMENT, () -> {
            KeptAnswers full = new KeptAnswers();
            for (int q = 0; q < 6; q++) {
                Checks.ask(full, "t0");
            }
            return full.question(1);
        });
    }

    private void questionFull() {
        edges.sentence(9, "are texts of up to 200 bytes: E.");
        fine(" ".repeat(198) + "t0", "t0" + " ".repeat(198), "flip(" + " ".repeat(192) + "t0)");
        StringBuilder condition = new StringBuilder("0<1");
        while (condition.length() + 6 <= 190) {
            condition.append("and0<1");
        }
        String text = where(condition + " ".repeat(190 - condition.length()));
        edges.due("its length", 200, text.length());
        fine(text);
        KeptAnswers x = new KeptAnswers();
        Checks.ask(x, text);
        Checks.ask(x, text.replace("0<1 ", "0<2 "));
        edges.due("the last sign of so long a text counts", 3, x.count(5));
        for (int q = 2; q < 6; q++) {
            edges.due("again", q, Checks.ask(x, text));
            edges.due("so long a text is like itself each time", 3, x.count(5));
        }
        textDue(" ".repeat(200), 1, 200);
        textDue(" ".repeat(199) + "t", 1, 200);
        textDue(" ".repeat(199) + "x", 1, 199);
        textDue(" ".repeat(198) + "t4", 2, 198);
        textDue("t0" + " ".repeat(197) + ")", 1, 199);
    }

    private void operators() {
        edges.sentence(9,
            "or W \"(\" E \")\", or V \"(\" E \",\" E \")\", or \"where\" \"(\" E \":\" C \")\". W: "
            + "\"flip\", \"one\", \"count\", \"sum\", \"least\", \"middle\", \"most\", \"loop\". V: "
            + "\"join\", \"add\", \"less\", \"both\".");
        for (String word : "flip one count sum least middle most loop".split(" ")) {
            fine(word + "(t0)");
            textDue(word, 1, word.length());
            textDue(word + "(t0,t1)", 1, word.length() + 3);
            textDue(word + "(t0:a<b)", 1, word.length() + 3);
            textDue(word + "()", 1, word.length() + 1);
            textDue(word + "s(t0)", 1, 0);
            textDue(word.substring(1) + "(t0)", 1, 0);
        }
        for (String word : "join add less both".split(" ")) {
            fine(word + "(t0,t1)");
            textDue(word + "(t0)", 1, word.length() + 3);
            textDue(word + "(t0,)", 1, word.length() + 4);
            textDue(word + "(,t0)", 1, word.length() + 1);
            textDue(word + "(t0,t1,t2)", 1, word.length() + 6);
            textDue(word + "(t0:a<b)", 1, word.length() + 3);
        }
        fine("where(t0:a<b)", "where(join(t0,where(t1:b<a)):a=b)");
        textDue("where(t0)", 1, 8);
        textDue("where(t0,t1)", 1, 8);
        textDue("where(:a<b)", 1, 6);
        textDue("where(t0:a<b,t1)", 1, 12);
    }

    private void tables() {
        edges.sentence(9, "E: \"t\" D (D: one digit, 0 to 3: that TABLE),");
        for (int table = 0; table < 4; table++) {
            KeptAnswers x = new KeptAnswers();
            x.change(table, 3, 5, 7);
            x.close();
            for (int other = 0; other < 4; other++) {
                Checks.ask(x, "t" + other);
                edges.due("t" + other, other == table ? 7 : 0, x.answer(other, 0, 3, 5));
            }
        }
        edges.sentence(10, "or a TABLE that is none (another digit, or more of them: at its t);");
        for (int digit = 4; digit <= 9; digit++) {
            textDue("t" + digit, 2, 0);
        }
        for (String digits : "00 01 10 33 30 000 4294967296 4294967299".split(" ")) {
            textDue("t" + digits, 2, 0);
            textDue("  flip( t" + digits + ")", 2, 8);
        }
        textDue("t" + "0".repeat(199), 2, 0);
        textDue("t0 0", 1, 3);
    }

    private void conditions() {
        edges.sentence(9,
            "C: P { \"or\" P }. P: B { \"and\" B }. B: \"not\" B, \"[\" C \"]\", or X R X; R: <, > or =; "
            + "X: \"a\", \"b\" or N;");
        Object[][] conditions = {
            {"a<b", 120}, {"a>b", 120}, {"a=b", 16}, {"b<a", 120}, {"a=a", 256}, {"a<a", 0},
            {"a<0", 0}, {"a<1", 16}, {"a<15", 240}, {"a>15", 0}, {"a>14", 16}, {"a>0", 240},
            {"b=0", 16}, {"15=b", 16}, {"0<1", 256}, {"1<0", 0}, {"15=15", 256}, {"0>0", 0},
            {"not a<b", 136}, {"not not a<b", 120}, {"[a<b]", 120}, {"not[a<b]", 136},
            // and binds more than or, not binds most
            {"a=0 or a=1 and b=0", 17}, {"[a=0 or a=1]and b=0", 2}, {"a=0 and b=0 or a=1", 17},
            {"a=0 and[b=0 or a=1]", 1}, {"not a=0 and b=0", 15}, {"not[a=0 and b=0]", 255},
            {"not a=0 or b=0", 241}, {"b=0 or not a=0", 241}, {"b=0 and not a=0", 15},
            {"a=0 or a=1 or a=2 or a=15", 64}, {"a>3 and a>4 and a>5 and a<7", 16},
            {"not not[not[a=0 or b=0]and a=1]or b=15 and a=15", 16},
            {"[a=0 or[b=0 and[a=1 or[b=1 and[a=2 or[b=2]]]]]]and a<3", 17},
        };
        for (Object[] condition : conditions) {
            edges.due("rows of " + condition[0], (Integer) condition[1], holdsFor((String) condition[0]));
        }
        String[] faulty = {"", "a", "a<", "<a", "a b", "a<b a", "a<b a<b", "or a<b", "a<b or", "and a<b",
            "a<b and", "a<b or or a<b", "a<b and or a<b", "not", "not not", "a<not b", "a not<b", "[]",
            "[a<b", "a<b]", "[a]<b", "a<[b]", "[a<b][a<b]", "a<b<a", "a<<b", "a<=b", "a==b", "a><b", "(a<b)",
            "t0<a", "c<a", "a<ab", "a<b,a<b", "a<b:a<b", "a-1<b", "-1<a", "a<b not a<b", "a!b", "a;b", "a?b"};
        int[] places = {0, 1, 2, 0, 2, 4, 4, 0, 6, 0, 7, 7, 8, 3, 7, 2, 2, 1, 4, 3, 2, 2, 5, 3, 2, 2, 2, 2, 0,
            0, 0, 2, 3, 3, 1, 0, 4, 1, 1, 1};
        for (int i = 0; i < faulty.length; i++) {
            textDue(where(faulty[i]), 1, 9 + places[i]);
        }
    }

    private void numbers() {
        edges.sentence(9, "N: digits, as many as stand there, 0 to 15.");
        for (int n = 0; n <= 15; n++) {
            edges.due("rows of a=" + n, 16, holdsFor("a=" + n));
            edges.due("rows of " + n + ">b", 16 * n, holdsFor(n + ">b"));
        }
        edges.due("zeros ahead", 16, holdsFor("a=" + "0".repeat(180) + "15"));
        edges.due("zeros alone", 16, holdsFor("a=" + "0".repeat(182)));
        textDue(where("a<1 5"), 1, 13);
        edges.sentence(10, "2 an N that is none such,");
        String[] none = {"16", "17", "99", "100", "016", "00016", "255", "256", "271", "65536", "65551",
            "2147483648", "4294967295", "4294967296", "4294967311", "9223372036854775808",
            "18446744073709551615", "18446744073709551616", "18446744073709551631"};
        for (String number : none) {
            textDue(where("a<" + number), 2, 11);
            textDue(where("a< " + number + " and b<1"), 2, 12);
            textDue(where(number + "<a"), 2, 9);
        }
        textDue("where(t0:a<" + "1".repeat(189), 2, 11);
    }

    private void words() {
        edges.sentence(9, "WORDS: small letters, as many as stand there (t and its digit stand together);");
        textDue("flipflip(t0)", 1, 0);
        textDue("flipt0", 1, 0);
        textDue("tt0", 1, 0);
        textDue("at0", 1, 0);
        textDue("fl ip(t0)", 1, 0);
        textDue("Flip(t0)", 1, 0);
        textDue("fLip(t0)", 1, 0);
        textDue("T0", 1, 0);
        textDue("flip`(t0)", 1, 4);
        textDue("flip{(t0)", 1, 4);
        textDue("flip_(t0)", 1, 4);
        textDue("flip0(t0)", 1, 4);
        textDue("t 0", 1, 1);
        textDue("t  0", 1, 1);
        textDue("flip(t 0)", 1, 6);
        textDue(where("ab<1"), 1, 9);
        textDue(where("nota<1"), 1, 9);
        textDue(where("nnot a<1"), 1, 9);
        textDue(where("a<bor a<b"), 1, 11);
        textDue(where("a<b ora<b"), 1, 13);
        textDue(where("a<b anda<b"), 1, 13);
        textDue(where("a<b andor a<b"), 1, 13);
        textDue(where("a<1 OR a<b"), 1, 13);
        fine("t0", where("a<1or b<1"), where("a<1and b<1"), where("a<1or[b<1]"), where("not[a<b]and a<b"),
            where("a<b or 1<2"), where("a<b or1<2"), where("not1<2"));
    }

    private void blanks() {
        edges.sentence(9, "blanks (32) may stand ahead of all these, and at the end.");
        String[] signs = {"where", "(", "join", "(", "t0", ",", "t1", ")", ":", "not", "[", "a", "<", "15",
            "or", "b", "=", "a", "]", "and", "3", ">", "b", ")"};
        fine(String.join(" ", signs), " " + String.join("   ", signs) + "  ");
        KeptAnswers x = new KeptAnswers();
        Checks.ask(x, "where(join(t0,t1):not[a<15or b=a]and 3>b)");
        Checks.ask(x, String.join(" ", signs));
        edges.due("they make no other shelf", 4, x.count(5));
        for (int other : new int[] {0, 9, 10, 11, 12, 13, 31, 33, 127, 160, 255}) {
            textDue((char) other + "t0", 1, 0);
            textDue("t0" + (char) other, 1, 2);
            textDue("flip" + (char) other + "(t0)", 1, 4);
            textDue(where("a" + (char) other + "<b"), 1, 10);
        }
        textDue("t0 )", 1, 3);
    }

    private void twelveOperators() {
        edges.sentence(9, "At most 12 operators (all E, TABLES too).");
        String eleven = "one(".repeat(11);
        fine(eleven + "t0" + ")".repeat(11), "join(".repeat(5) + "flip(t0)" + ",t1)".repeat(5));
        KeptAnswers x = new KeptAnswers();
        Checks.ask(x, eleven + "t0" + ")".repeat(11));
        edges.due("12 nodes", 12, x.nodes(0));
        edges.sentence(10, "3 a 13th operator,");
        textDue("one(".repeat(12) + "t0" + ")".repeat(12), 3, 48);
        textDue("one(".repeat(12) + " t0" + ")".repeat(12), 3, 49);
        textDue("one(".repeat(13) + "t0" + ")".repeat(13), 3, 48);
        textDue("join(".repeat(6) + "t0" + ",t1)".repeat(6), 3, 30 + 2 + 5 * 4 + 1);
        textDue("add(".repeat(6) + "t0" + ",t1)".repeat(4) + ",where(t0:a<b)", 3, 24 + 2 + 16 + 1 + 6);
        textDue("add(" + "one(".repeat(10) + "t0" + ")".repeat(10) + ",t0)", 3, 4 + 40 + 2 + 10 + 1);
        textDue("one(".repeat(12) + "where(", 3, 48);
    }

    private void sixOpen() {
        edges.sentence(10, "or a 7th of [ and not that is open at one time (a not till its B ends);");
        for (int nots = 0; nots <= 7; nots++) {
            String open = "not ".repeat(nots) + "[".repeat(7 - nots);
            textDue(where(open + "a<b" + "]".repeat(7 - nots)), 3, 9 + (nots == 7 ? 24 : 4 * nots + 6 - nots));
            String mixed = "[".repeat(7 - nots) + " not".repeat(nots);
            textDue(where(mixed + " a<b" + "]".repeat(7 - nots)), 3, 9 + (nots == 0 ? 6 : 7 - nots + 4 * nots - 3));
        }
        for (int nots = 0; nots <= 6; nots++) {
            fine(where("not ".repeat(nots) + "[".repeat(6 - nots) + "a<b" + "]".repeat(6 - nots)));
            fine(where("[".repeat(6 - nots) + " not".repeat(nots) + " a<b" + "]".repeat(6 - nots)));
        }
        String six = "[[[[[[a<b]]]]]]";
        fine(where(six + "and" + six + "or" + six), where("not not not not not not a<b and not not a<b"),
            where("[[[[[not a<b and not b<a or not a=b]]]]]"), where("[not[not[not a<b]and not a<b]or not a<b]"),
            where("not not not not not not a<b or not not not not not not a<b"),
            where("not[not[not[a<b]and not not a<b]or a<b]"));
        textDue(where("not " + six), 3, 18);
        textDue(where(six + "and[" + six + "]"), 3, 9 + 15 + 3 + 6);
        textDue(where("[[[[[not a<b and not not b<a]]]]]"), 3, 9 + 21);
        textDue(where("not[not[not[a<b]and not not not a<b]or a<b]"), 3, 9 + 28);
    }

    // ---- promise 10

    private void cannotStand() {
        edges.sentence(10, "1 what can't stand there");
        String[] signs = {"where", "(", "join", "(", "t0", ",", "t1", ")", ":", "not", "[", "a", "<", "15",
            "or", "b", "=", "a", "]", "and", "3", ">", "b", ")"};
        for (int wrong = 0; wrong <= signs.length; wrong++) {
            StringBuilder ahead = new StringBuilder();
            for (int i = 0; i < wrong; i++) {
                ahead.append(signs[i]).append(' ');
            }
            for (String sign : new String[] {"%", "\u00ff", "nor", "(%"}) {
                boolean operand = sign.equals("(%") && wrong < signs.length && signs[wrong].equals("(");
                textDue(ahead + sign, 1, ahead.length() + (operand ? 1 : 0));
            }
        }
    }

    private void endsTooEarly() {
        edges.sentence(10, "(at the length, if the text ends too early);");
        String[] signs = {"where", "(", "both", "(", "t3", ",", "sum", "(", "t1", ")", ")", ":", "not", "[", "a",
            "<", "15", "or", "b", "=", "a", "]", "and", "3", ">", "b", ")"};
        StringBuilder text = new StringBuilder();
        for (int i = 0; i < signs.length; i++) {
            textDue(text.toString(), 1, text.length());
            textDue(text + "   ", 1, text.length() + 3);
            text.append(signs[i]);
            if (i < signs.length - 1) {
                textDue(text.toString(), 1, text.length());
            }
            text.append(' ');
        }
        fine(text.toString());
        textDue("t", 1, 1);
        textDue("   t", 1, 4);
        textDue("flip(t", 1, 6);
        KeptAnswers x = new KeptAnswers();
        Checks.feed(x, "flip(t0)");
        edges.due("the text ends at n, not at the tape's end", -9, x.question(7));
        edges.due("its place", 7, x.fault());
    }

    /** What each byte is in some places of a text. */
    private void everyByte() {
        edges.sentence(10, "at its first byte:");
        for (int sign = 0; sign < 256; sign++) {
            boolean digit = sign >= '0' && sign <= '9';
            boolean letter = sign >= 'a' && sign <= 'z';
            String one = Character.toString((char) sign);
            textDue(one, 1, sign == 't' || sign == ' ' ? 1 : 0);
            textDue("t" + one, digit ? sign < '4' ? FINE : 2 : 1, digit || letter ? 0 : 1);
            textDue("t0" + one, digit ? 2 : sign == ' ' ? FINE : 1, digit ? 0 : 2);
            boolean term = digit || sign == 'a' || sign == 'b';
            textDue(where(one + "<b"), term ? FINE : 1, sign == ' ' || sign == '[' ? 10 : 9);
            boolean relation = sign == '<' || sign == '>' || sign == '=';
            textDue(where("a" + one + "1"), relation ? FINE : 1, letter ? 9 : sign == ' ' ? 11 : 10);
            textDue("flip" + one + "t0)", sign == '(' ? FINE : 1, letter ? 0 : sign == ' ' ? 5 : 4);
            textDue("add(t0" + one + "t1)", sign == ',' ? FINE : digit ? 2 : 1, digit ? 4 : sign == ' ' ? 7 : 6);
        }
    }

    private void firstFromTheLeft() {
        edges.sentence(10, "FAULTS, the first from the left,");
        textDue("t4 t5", 2, 0);
        textDue("join(t4,%)", 2, 5);
        textDue("join(%,t4)", 1, 5);
        textDue(where("a<16 and b<17"), 2, 11);
        textDue(where("a% and b<17"), 1, 10);
        textDue("where(t4:a<16)", 2, 6);
        textDue("where(t0:a<16", 2, 11);
        textDue("one(".repeat(12) + "one(t4", 3, 48);
        textDue("one(".repeat(11) + "t4" + ")".repeat(12), 2, 44);
        textDue(where("[[[[[[a<16 and [a<b"), 2, 9 + 8);
        textDue(where("[[[[[[[a<16"), 3, 9 + 6);
        textDue("one(".repeat(10) + "where(t0:not not not not not not not a<b", 3, 40 + 9 + 24);
    }

    private void ofOneTheLeast() {
        edges.sentence(10, "of one the least.");
        String twelve = "one(".repeat(12);
        for (String text : "t4 t9 t00 t12 t33".split(" ")) {
            textDue(twelve + text, 2, 48);
            textDue(twelve + "  " + text + ")", 2, 50);
        }
        for (String text : "x ones( 5 ( ) , : [ not % a tt0".split(" ")) {
            textDue(twelve + text, 1, 48);
        }
        textDue(twelve, 1, 48);
        textDue(twelve + " ", 1, 49);
        textDue(twelve + "t", 3, 48);
        textDue(twelve + "t 4", 3, 48);
        textDue(twelve + "t%", 3, 48);
        textDue(twelve + "flip%", 3, 48);
        textDue(where("a 16"), 1, 11);
        textDue(where("99 99"), 2, 9);
        textDue(where("[[[[[[a ["), 1, 17);
        textDue(where("[[[[[[a<not"), 1, 17);
    }

    private void faultOfTheLatest() {
        edges.sentence(9, "or its FAULT less 10;");
        KeptAnswers x = new KeptAnswers();
        edges.due("1", -9, Checks.ask(x, "%"));
        edges.due("2", -8, Checks.ask(x, "t4"));
        edges.due("3", -7, Checks.ask(x, "one(".repeat(13)));
        edges.sentence(10, "The place of the FAULT of the latest question();");
        edges.due("of the latest", 48, x.fault());
        edges.due("and again", 48, x.fault());
        Checks.ask(x, "flip(%");
        edges.due("of the next", 5, x.fault());
        x.close();
        x.feed(0, 0, 0, 0, 0);
        edges.due("other calls leave it", 5, x.fault());
        edges.leavesAll("asking leaves all as it was", 2, Made::busy, KeptAnswers::fault);
        edges.sentence(10, "NONE without.");
        edges.due("no question() yet", NONE, new KeptAnswers().fault());
        KeptAnswers y = new KeptAnswers();
        Checks.ask(y, "flip(%");
        Checks.ask(y, "flip(t0)");
        edges.due("a question without", NONE, y.fault());
        for (int q = 1; q < 6; q++) {
            Checks.ask(y, "t0");
        }
        Checks.ask(y, "t0");
        edges.due("there are 6: none", NONE, y.fault());
    }
}
