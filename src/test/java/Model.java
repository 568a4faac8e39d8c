import java.util.ArrayList;
import java.util.Arrays;
import java.util.HashMap;
import java.util.List;
import java.util.Map;
import java.util.NoSuchElementException;
import java.util.TreeMap;

/**
 * The document once more, in another way: every shelf keeps what it has for each edition that it
 * was worked for, and works one edition from what its operands have kept; folding throws kept
 * editions away. Slow and plain; ModelTest holds KeptAnswers against it.
 */
final class Model {
    private record Told(int table, int a, int b, int more, int edition, boolean late) { }

    /** An operator as it was read. */
    private static final class Tree {
        String word;
        int table = -1;
        final List<Tree> operands = new ArrayList<>();
        List<String> condition = List.of();
        Test holds;

        String key() {
            StringBuilder key = new StringBuilder(word).append(table).append(condition).append('(');
            for (Tree operand : operands) {
                key.append(operand.key()).append(';');
            }
            return key.append(')').toString();
        }

        List<Tree> inOrder() {
            List<Tree> all = new ArrayList<>();
            for (Tree operand : operands) {
                all.addAll(operand.inOrder());
            }
            all.add(this);
            return all;
        }
    }

    private interface Test {
        boolean of(int a, int b);
    }

    private static final class Fault extends Exception {
        private static final long serialVersionUID = 1;
        final int kind;
        final int place;

        Fault(int kind, int place) {
            this.kind = kind;
            this.place = place;
        }
    }

    private static final class Shelf {
        int number;
        Tree tree;
        List<Shelf> operands = new ArrayList<>();
        int front;
        final Map<Integer, int[][]> kept = new HashMap<>();
    }

    private static final class Question {
        Tree tree;
        final List<Shelf> nodes = new ArrayList<>();

        Shelf whole() {
            return nodes.get(nodes.size() - 1);
        }
    }

    private final List<Told> changes = new ArrayList<>();
    private final List<Question> questions = new ArrayList<>();
    private final TreeMap<String, Shelf> shelves = new TreeMap<>();
    private final List<Integer> readers = new ArrayList<>();
    private byte[] tape = new byte[0];
    private int shelfNumber;
    private int closed;
    private int room;
    private int folded;
    private int place = -1;

    // ---- arguments

    private static void table(int table) {
        if (table < 0 || table > 3) {
            throw new IndexOutOfBoundsException();
        }
    }

    private static void need(boolean so) {
        if (!so) {
            throw new IllegalArgumentException();
        }
    }

    private static void pair(int a, int b) {
        need(a >= 0 && a <= 15 && b >= 0 && b <= 15);
    }

    private Question question0(int question) {
        if (question < 0 || question >= questions.size() || questions.get(question) == null) {
            throw new NoSuchElementException();
        }
        return questions.get(question);
    }

    private Shelf node(int question, int node) {
        Question q = question0(question);
        if (node < 0 || node >= q.nodes.size()) {
            throw new IndexOutOfBoundsException();
        }
        return q.nodes.get(node);
    }

    // ---- tables

    int change(int table, int a, int b, int more) {
        table(table);
        pair(a, b);
        need(more != 0 && Math.abs((long) more) <= 9);
        if (changes.size() == 400) {
            return -1;
        }
        changes.add(new Told(table, a, b, more, closed, false));
        return changes.size();
    }

    int late(int table, int a, int b, int more, int edition) {
        table(table);
        pair(a, b);
        need(more != 0 && Math.abs((long) more) <= 9);
        need(edition >= 0 && edition < closed);
        if (edition + room < closed) {
            return 0;
        }
        if (changes.size() == 400) {
            return -1;
        }
        changes.add(new Told(table, a, b, more, closed, true));
        return 1;
    }

    int room(int editions) {
        need(editions >= 0 && editions <= 10);
        int was = room;
        room = editions;
        return was;
    }

    int drop() {
        int before = changes.size();
        changes.removeIf(told -> told.edition() == closed);
        return before - changes.size();
    }

    int close() {
        if (closed == 100) {
            throw new IllegalStateException();
        }
        return ++closed;
    }

    int rows(int table, int a, int b, int edition) {
        table(table);
        pair(a, b);
        need(edition >= 0 && edition <= closed);
        return tableAsOf(table, edition)[a][b];
    }

    private int[][] tableAsOf(int table, int edition) {
        int[][] counts = new int[16][16];
        for (Told told : changes) {
            if (told.table() == table && told.edition() <= edition) {
                counts[told.a()][told.b()] += told.more();
            }
        }
        return counts;
    }

    int told(int change, int what) {
        if (change < 0 || change >= changes.size()) {
            throw new IndexOutOfBoundsException();
        }
        need(what >= 0 && what <= 5);
        Told told = changes.get(change);
        return new int[] {told.table(), told.a(), told.b(), told.more(), told.edition(),
            told.late() ? 1 : 0}[what];
    }

    int back() {
        if (changes.isEmpty() || changes.get(changes.size() - 1).edition() != closed) {
            return 0;
        }
        changes.remove(changes.size() - 1);
        return 1;
    }

    // ---- texts

    int feed(int a, int b, int c, int d, int e) {
        if (tape.length + 20 > 200) {
            return -1;
        }
        int at = tape.length;
        tape = Arrays.copyOf(tape, at + 20);
        for (int number : new int[] {a, b, c, d, e}) {
            for (int i = 3; i >= 0; i--) {
                tape[at++] = (byte) (number >> (8 * i));
            }
        }
        return tape.length;
    }

    int question(int n) {
        need(n >= 0 && n <= tape.length);
        StringBuilder text = new StringBuilder();
        for (int i = 0; i < n; i++) {
            text.append((char) (tape[i] & 255));
        }
        tape = new byte[0];
        place = -1;
        if (questions.size() == 6) {
            return -1;
        }
        Tree tree;
        try {
            tree = new Reading(text.toString()).whole();
        } catch (Fault fault) {
            place = fault.place;
            return fault.kind - 10;
        }
        Question made = new Question();
        made.tree = tree;
        for (Tree part : tree.inOrder()) {
            made.nodes.add(shelfFor(part));
        }
        questions.add(made);
        return questions.size() - 1;
    }

    private Shelf shelfFor(Tree part) {
        Shelf there = shelves.get(part.key());
        if (there != null) {
            return there;
        }
        Shelf made = new Shelf();
        made.number = shelfNumber++;
        made.tree = part;
        made.front = folded;
        for (Tree operand : part.operands) {
            made.operands.add(shelves.get(operand.key()));
        }
        shelves.put(part.key(), made);
        if (folded > 0) {
            keep(made, folded - 1);
        }
        return made;
    }

    private int[][] keptAsOf(Shelf shelf, int edition) {
        return shelf.tree.table >= 0 ? tableAsOf(shelf.tree.table, edition)
            : shelf.kept.get(edition);
    }

    private void keep(Shelf shelf, int edition) {
        if (shelf.tree.table < 0) {
            List<int[][]> given = new ArrayList<>();
            for (Shelf operand : shelf.operands) {
                given.add(keptAsOf(operand, edition));
            }
            shelf.kept.put(edition, apply(shelf.tree, given));
        }
    }

    int fault() {
        return place;
    }

    /** A text read token by token, the first fault ending it. */
    private static final class Reading {
        private final String text;
        private int at;
        private int operators;
        private List<String> signs;

        Reading(String text) {
            this.text = text;
        }

        Tree whole() throws Fault {
            Tree tree = tree();
            if (!next().isEmpty()) {
                throw new Fault(1, at);
            }
            return tree;
        }

        private void blanks() {
            while (at < text.length() && text.charAt(at) == ' ') {
                at++;
            }
        }

        /** What stands next, without going past it; empty at the end. */
        private String next() {
            blanks();
            if (at == text.length()) {
                return "";
            }
            int end = at + 1;
            String alike = Character.toString(text.charAt(at)).matches("[a-z]") ? "[a-z]+"
                : Character.toString(text.charAt(at)).matches("[0-9]") ? "[0-9]+" : null;
            while (alike != null && end < text.length()
                    && text.substring(at, end + 1).matches(alike)) {
                end++;
            }
            return text.substring(at, end);
        }

        private String must(String... which) throws Fault {
            String next = next();
            if (!Arrays.asList(which).contains(next)) {
                throw new Fault(1, at);
            }
            at += next.length();
            return next;
        }

        private Tree tree() throws Fault {
            String word = next();
            int begin = at;
            if (!List.of("t", "flip", "one", "count", "sum", "least", "middle", "most", "loop",
                    "join", "add", "less", "both", "where").contains(word)) {
                throw new Fault(1, begin);
            }
            at += word.length();
            Tree tree = new Tree();
            tree.word = word;
            boolean digit = at < text.length() && Character.toString(text.charAt(at)).matches("[0-9]");
            if (word.equals("t") && digit) {
                String number = next();
                if (!number.matches("[0-3]")) {
                    throw new Fault(2, begin);
                }
                at++;
                tree.table = Integer.parseInt(number);
            }
            if (++operators > 12) {
                throw new Fault(3, begin);
            }
            if (word.equals("t")) {
                if (!digit) {
                    throw new Fault(1, at);
                }
                return tree;
            }
            must("(");
            tree.operands.add(tree());
            if (List.of("join", "add", "less", "both").contains(word)) {
                must(",");
                tree.operands.add(tree());
            }
            if (word.equals("where")) {
                must(":");
                signs = new ArrayList<>();
                tree.holds = choice(0);
                tree.condition = signs;
            }
            must(")");
            return tree;
        }

        private Test choice(int open) throws Fault {
            Test one = part(open);
            while (next().equals("or")) {
                signs.add(must("or"));
                Test left = one;
                Test right = part(open);
                one = (a, b) -> left.of(a, b) || right.of(a, b);
            }
            return one;
        }

        private Test part(int open) throws Fault {
            Test one = base(open);
            while (next().equals("and")) {
                signs.add(must("and"));
                Test left = one;
                Test right = base(open);
                one = (a, b) -> left.of(a, b) && right.of(a, b);
            }
            return one;
        }

        private Test base(int open) throws Fault {
            String next = next();
            if (next.equals("not") || next.equals("[")) {
                if (open == 6) {
                    throw new Fault(3, at);
                }
                signs.add(must(next));
                if (next.equals("not")) {
                    Test inner = base(open + 1);
                    return (a, b) -> !inner.of(a, b);
                }
                Test inner = choice(open + 1);
                signs.add(must("]"));
                return inner;
            }
            String left = term();
            String relation = must("<", ">", "=");
            signs.add(relation);
            String right = term();
            return (a, b) -> {
                int x = value(left, a, b);
                int y = value(right, a, b);
                return relation.equals("<") ? x < y : relation.equals(">") ? x > y : x == y;
            };
        }

        private static int value(String term, int a, int b) {
            return term.equals("a") ? a : term.equals("b") ? b : Integer.parseInt(term);
        }

        private String term() throws Fault {
            String next = next();
            if (next.matches("[0-9]+")) {
                String number = new java.math.BigInteger(next).toString();
                if (number.length() > 2 || Integer.parseInt(number) > 15) {
                    throw new Fault(2, at);
                }
                at += next.length();
                signs.add(number);
                return number;
            }
            String term = must("a", "b");
            signs.add(term);
            return term;
        }
    }

    // ---- operators

    private static int[][] apply(Tree tree, List<int[][]> given) {
        int[][] x = given.get(0);
        int[][] y = given.size() > 1 ? given.get(1) : null;
        int[][] out = new int[16][16];
        if (tree.word.equals("loop")) {
            return closure(x);
        }
        for (int a = 0; a < 16; a++) {
            for (int b = 0; b < 16; b++) {
                switch (tree.word) {
                    case "flip" -> out[a][b] = x[b][a];
                    case "one" -> out[a][b] = x[a][b] > 0 ? 1 : 0;
                    case "add" -> out[a][b] = x[a][b] + y[a][b];
                    case "less" -> out[a][b] = x[a][b] - y[a][b];
                    case "both" -> out[a][b] = Math.min(x[a][b], y[a][b]);
                    case "where" -> out[a][b] = tree.holds.of(a, b) ? x[a][b] : 0;
                    case "join" -> {
                        for (int c = 0; c < 16; c++) {
                            out[a][c] += x[a][b] * y[b][c];
                        }
                    }
                    default -> { }
                }
            }
            markLine(tree.word, x[a], out[a]);
        }
        return out;
    }

    private static void markLine(String word, int[] x, int[] out) {
        int all = 0;
        int weighed = 0;
        List<Integer> above = new ArrayList<>();
        for (int b = 0; b < 16; b++) {
            all += x[b];
            weighed += b * x[b];
            if (x[b] > 0) {
                above.add(b);
            }
        }
        if (word.equals("count") && all > 0) {
            out[all > 15 ? 15 : all] = 1;
        }
        if (above.isEmpty()) {
            return;
        }
        switch (word) {
            case "sum" -> out[((weighed % 16) + 16) % 16] = 1;
            case "least" -> out[above.get(0)] = 1;
            case "middle" -> out[above.get((above.size() - 1) / 2)] = 1;
            case "most" -> out[above.get(above.size() - 1)] = 1;
            default -> { }
        }
    }

    private static int[][] closure(int[][] x) {
        int[][] out = new int[16][16];
        boolean more = true;
        while (more) {
            more = false;
            for (int i = 0; i < 4096; i++) {
                int a = i / 256;
                int by = i / 16 % 16;
                int b = i % 16;
                if (out[a][b] == 0 && (x[a][b] > 0 || x[a][by] > 0 && out[by][b] > 0)) {
                    out[a][b] = 1;
                    more = true;
                }
            }
        }
        return out;
    }

    /** All ways in order of length and then place by place, by breadth: the first one there. */
    private static List<Integer> shortest(int[][] x, int a, int b) {
        List<List<Integer>> ways = new ArrayList<>();
        ways.add(List.of(a));
        boolean[] seen = new boolean[16];
        for (int length = 0; length < 16; length++) {
            List<List<Integer>> longer = new ArrayList<>();
            for (List<Integer> way : ways) {
                for (int to = 0; to < 16; to++) {
                    if (x[way.get(way.size() - 1)][to] > 0 && !seen[to]) {
                        seen[to] = true;
                        List<Integer> next = new ArrayList<>(way);
                        next.add(to);
                        if (to == b) {
                            return next;
                        }
                        longer.add(next);
                    }
                }
            }
            ways = longer;
        }
        return List.of();
    }

    private static int[][] whole(Tree tree, int[][][] tables) {
        if (tree.table >= 0) {
            return tables[tree.table];
        }
        List<int[][]> given = new ArrayList<>();
        for (Tree operand : tree.operands) {
            given.add(whole(operand, tables));
        }
        return apply(tree, given);
    }

    // ---- shelves

    private int front(Shelf shelf) {
        return shelf.tree.table >= 0 ? closed : shelf.front;
    }

    private boolean workable(Shelf shelf) {
        return !shelf.operands.isEmpty()
            && shelf.operands.stream().allMatch(operand -> front(operand) > shelf.front);
    }

    int leave(int question) {
        question0(question);
        questions.set(question, null);
        int before = shelves.size();
        shelves.values().removeIf(shelf -> questions.stream()
            .noneMatch(other -> other != null && other.nodes.contains(shelf)));
        return before - shelves.size();
    }

    int nodes(int question) {
        return question0(question).nodes.size();
    }

    int shelf(int question, int node) {
        return node(question, node).number;
    }

    int front(int question, int node) {
        return front(node(question, node));
    }

    int work(int question, int node) {
        Shelf shelf = node(question, node);
        if (!workable(shelf)) {
            return -1;
        }
        keep(shelf, shelf.front);
        return ++shelf.front;
    }

    int finish(int question) {
        int times = 0;
        Question q = question0(question);
        boolean more = true;
        while (more) {
            more = false;
            for (int i = 0; i < q.nodes.size(); i++) {
                if (work(question, i) >= 0) {
                    times++;
                    more = true;
                }
            }
        }
        return times;
    }

    int ready(int question, int k) {
        Question q = question0(question);
        List<Integer> all = new ArrayList<>();
        for (int i = 0; i < q.nodes.size(); i++) {
            if (workable(q.nodes.get(i))) {
                all.add(i);
            }
        }
        return pick(all, k);
    }

    private static int pick(List<Integer> all, int k) {
        return k >= 0 && k < all.size() ? all.get(k) : -1;
    }

    int lacks(int question, int edition) {
        Question q = question0(question);
        if (edition < 0 || edition >= closed) {
            return -1;
        }
        int times = 0;
        for (Shelf shelf : new java.util.HashSet<>(q.nodes)) {
            times += Math.max(0, edition + 1 - front(shelf));
        }
        return times;
    }

    int fold(int edition) {
        need(edition >= 0 && edition <= 100);
        int to = Math.min(edition, closed);
        for (Shelf shelf : shelves.values()) {
            to = Math.min(to, front(shelf));
        }
        for (Integer reader : readers) {
            to = reader == null ? to : Math.min(to, reader);
        }
        if (to > folded) {
            folded = to;
            for (Shelf shelf : shelves.values()) {
                shelf.kept.keySet().removeIf(kept -> kept < folded - 1);
            }
        }
        return folded;
    }

    int reader(int edition) {
        need(edition >= 0 && edition <= 100 && edition >= folded - 1);
        if (readers.size() == 8) {
            return -1;
        }
        readers.add(edition);
        return readers.size() - 1;
    }

    int gone(int reader) {
        if (reader < 0 || reader >= readers.size() || readers.get(reader) == null) {
            throw new IndexOutOfBoundsException();
        }
        return readers.set(reader, null);
    }

    // ---- what is told

    private boolean told(Shelf shelf, int edition) {
        return edition >= Math.max(0, folded - 1) && edition < front(shelf);
    }

    private int[][] asOf(Shelf shelf, int edition) {
        return edition < 0 ? new int[16][16] : keptAsOf(shelf, edition);
    }

    int weight(int question, int node, int edition, int a, int b) {
        Shelf shelf = node(question, node);
        pair(a, b);
        return told(shelf, edition) ? asOf(shelf, edition)[a][b] : Integer.MIN_VALUE;
    }

    int answer(int question, int edition, int a, int b) {
        Shelf shelf = question0(question).whole();
        pair(a, b);
        return told(shelf, edition) ? Math.max(0, asOf(shelf, edition)[a][b]) : -1;
    }

    private List<Integer> above(int question, int edition) {
        Shelf shelf = question0(question).whole();
        if (!told(shelf, edition)) {
            return null;
        }
        List<Integer> all = new ArrayList<>();
        for (int i = 0; i < 256; i++) {
            if (asOf(shelf, edition)[i / 16][i % 16] > 0) {
                all.add(i);
            }
        }
        return all;
    }

    int size(int question, int edition) {
        List<Integer> all = above(question, edition);
        return all == null ? -1 : all.size();
    }

    int row(int question, int edition, int k) {
        List<Integer> all = above(question, edition);
        return all == null ? -1 : pick(all, k);
    }

    private int differ(int[][] x, int[][] y) {
        int n = 0;
        for (int i = 0; i < 256; i++) {
            n += x[i / 16][i % 16] != y[i / 16][i % 16] ? 1 : 0;
        }
        return n;
    }

    int changed(int question, int node, int edition) {
        Shelf shelf = node(question, node);
        if (!told(shelf, edition) || edition > 0 && !told(shelf, edition - 1)) {
            return -1;
        }
        return differ(asOf(shelf, edition), asOf(shelf, edition - 1));
    }

    int since(int question, int node, int from, int to) {
        Shelf shelf = node(question, node);
        if (!told(shelf, from) || !told(shelf, to)) {
            return -1;
        }
        return differ(asOf(shelf, from), asOf(shelf, to));
    }

    int when(int question, int a, int b, int k) {
        Shelf shelf = question0(question).whole();
        pair(a, b);
        List<Integer> all = new ArrayList<>();
        for (int edition = 0; edition < 100; edition++) {
            if (told(shelf, edition) && (edition == 0 || told(shelf, edition - 1))
                    && Math.max(0, asOf(shelf, edition)[a][b])
                        != Math.max(0, asOf(shelf, edition - 1)[a][b])) {
                all.add(edition);
            }
        }
        return pick(all, k);
    }

    int unlike(int question, int other, int edition) {
        Shelf one = question0(question).whole();
        Shelf two = question0(other).whole();
        if (!told(one, edition) || !told(two, edition)) {
            return -1;
        }
        int n = 0;
        for (int i = 0; i < 256; i++) {
            n += answer(question, edition, i / 16, i % 16) != answer(other, edition, i / 16, i % 16)
                ? 1 : 0;
        }
        return n;
    }

    int digest(int question, int node, int edition) {
        Shelf shelf = node(question, node);
        if (!told(shelf, edition)) {
            return 0;
        }
        int digest = 7;
        for (int[] line : asOf(shelf, edition)) {
            for (int count : line) {
                digest = digest * 31 + count;
            }
        }
        return digest;
    }

    // ---- why, and what if

    int way(int question, int node, int edition, int a, int b, int k) {
        Shelf shelf = node(question, node);
        pair(a, b);
        if (!shelf.tree.word.equals("loop") || !told(shelf, edition)) {
            return -1;
        }
        List<Integer> way = shortest(asOf(shelf.operands.get(0), edition), a, b);
        return k < 0 || k + 1L >= way.size() ? -1 : 16 * way.get(k) + way.get(k + 1);
    }

    private int[][][] tables(int edition) {
        int[][][] all = new int[4][][];
        for (int table = 0; table < 4; table++) {
            all[table] = tableAsOf(table, edition);
        }
        return all;
    }

    private int tried(int question, int[][][] tables, int a, int b) {
        return Math.max(0, whole(question0(question).tree, tables)[a][b]);
    }

    int without(int question, int edition, int a, int b, int table, int x, int y) {
        Shelf shelf = question0(question).whole();
        table(table);
        pair(a, b);
        pair(x, y);
        if (!told(shelf, edition)) {
            return -1;
        }
        int[][][] tables = tables(edition);
        tables[table][x][y] = 0;
        return tried(question, tables, a, b);
    }

    int needed(int question, int edition, int a, int b, int table) {
        question0(question);
        table(table);
        pair(a, b);
        if (answer(question, edition, a, b) <= 0) {
            return -1;
        }
        int n = 0;
        for (int i = 0; i < 256; i++) {
            n += without(question, edition, a, b, table, i / 16, i % 16) == 0 ? 1 : 0;
        }
        return n;
    }

    int kern(int question, int edition, int a, int b, int k) {
        if (answer(question, edition, a, b) <= 0) {
            return -1;
        }
        int[][][] tables = tables(edition);
        List<Integer> stay = new ArrayList<>();
        for (int i = 0; i < 1024; i++) {
            int[] line = tables[i / 256][i / 16 % 16];
            int had = line[i % 16];
            if (had > 0) {
                line[i % 16] = 0;
                if (tried(question, tables, a, b) == 0) {
                    line[i % 16] = had;
                    stay.add(i);
                }
            }
        }
        return pick(stay, k);
    }

    int wanted(int question, int edition, int a, int b, int table, int k) {
        question0(question);
        table(table);
        pair(a, b);
        if (answer(question, edition, a, b) != 0) {
            return -1;
        }
        List<Integer> all = new ArrayList<>();
        int[][][] tables = tables(edition);
        for (int i = 0; i < 256; i++) {
            tables[table][i / 16][i % 16]++;
            if (tried(question, tables, a, b) > 0) {
                all.add(i);
            }
            tables[table][i / 16][i % 16]--;
        }
        return k == -1 ? all.size() : pick(all, k);
    }

    int count(int what) {
        return switch (what) {
            case 0 -> closed;
            case 1 -> changes.size();
            case 2 -> (int) changes.stream().filter(told -> told.edition() == closed).count();
            case 3 -> (int) changes.stream().filter(Told::late).count();
            case 4 -> (int) questions.stream().filter(question -> question != null).count();
            case 5 -> shelves.size();
            case 6 -> folded;
            case 7 -> (int) readers.stream().filter(reader -> reader != null).count();
            case 8 -> tape.length;
            default -> -1;
        };
    }
}
