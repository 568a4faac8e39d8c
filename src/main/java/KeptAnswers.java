import java.util.Arrays;
import java.util.NoSuchElementException;

/**
 * Answers that keep up with tables whose changes are told by editions.
 *
 * <p>A closed edition never changes any more, so what a shelf has as of it follows from the
 * changes told: nothing is kept of an edition but how far each shelf is done. A shelf's counts
 * are worked out when they are asked for, and stay till another state of its tables is asked for.
 *
 * <p>Words used below: a cell is the place 16 A + B of a row (A, B); a line is the sixteen cells
 * with one A; a set of lines or of B is held in the lowest sixteen bits of an int.
 */
public final class KeptAnswers {
    public static final int NONE = -1;
    public static final int VOID = Integer.MIN_VALUE;

    private static final int TABLES = 4;
    private static final int SIDE = 16;
    private static final int CELLS = 256;
    private static final int ALL_LINES = 0xFFFF;
    private static final int MOST_EDITIONS = 100;
    private static final int MOST_CHANGES = 400;
    private static final int MOST_MORE = 9;
    private static final int MOST_ROOM = 10;
    private static final int MOST_QUESTIONS = 6;
    private static final int MOST_OPERATORS = 12;
    private static final int MOST_SHELVES = 72;
    private static final int MOST_READERS = 8;
    private static final int MOST_BYTES = 200;
    private static final int MOST_OPEN = 6;
    private static final int CANNOT_STAND = 1;
    private static final int NONE_SUCH = 2;
    private static final int TOO_MANY = 3;
    private static final int FULL = -1;

    private final Ledger ledger = new Ledger();
    private final Tape tape = new Tape();
    private final Draft draft = new Draft(tape);
    private final Worker worker = new Worker();
    private final Shelf[] shelves = new Shelf[MOST_SHELVES];
    private final Question[] questions = new Question[MOST_QUESTIONS];
    private final int[] held = new int[MOST_READERS];
    private final int[] earlier = new int[CELLS];
    private int shelvesMade;
    private int asked;
    private int readersMade;
    private int folded;

    public KeptAnswers() {
    }

    // ---- tables and editions

    public int change(int table, int a, int b, int more)
            throws IndexOutOfBoundsException, IllegalArgumentException {
        requireTable(table);
        int cell = cellOf(a, b);
        requireMore(more);
        return ledger.add(table, cell, more, 0) ? ledger.told : FULL;
    }

    public int late(int table, int a, int b, int more, int edition)
            throws IndexOutOfBoundsException, IllegalArgumentException {
        requireTable(table);
        int cell = cellOf(a, b);
        requireMore(more);
        if (!ledger.isClosed(edition)) {
            throw new IllegalArgumentException("the edition is not closed");
        }
        if (ledger.closed - edition > ledger.room) {
            return 0;
        }
        return ledger.add(table, cell, more, 1) ? 1 : FULL;
    }

    public int room(int editions) throws IllegalArgumentException {
        if (editions < 0 || editions > MOST_ROOM) {
            throw new IllegalArgumentException("no such room");
        }
        int before = ledger.room;
        ledger.room = editions;
        return before;
    }

    public int drop() {
        int dropped = ledger.toldOpen();
        ledger.told -= dropped;
        return dropped;
    }

    public int close() throws IllegalStateException {
        if (!ledger.closeOpen()) {
            throw new IllegalStateException("all editions are closed");
        }
        return ledger.closed;
    }

    public int rows(int table, int a, int b, int edition)
            throws IndexOutOfBoundsException, IllegalArgumentException {
        requireTable(table);
        int cell = cellOf(a, b);
        if (edition < 0 || edition > ledger.closed) {
            throw new IllegalArgumentException("no such edition");
        }
        return ledger.total(table, cell, edition);
    }

    public int told(int change, int what)
            throws IndexOutOfBoundsException, IllegalArgumentException {
        if (change < 0 || change >= ledger.told) {
            throw new IndexOutOfBoundsException("no such change");
        }
        if (what < 0 || what > 5) {
            throw new IllegalArgumentException("nothing such is told");
        }
        return ledger.ofChange(change, what);
    }

    public int back() {
        if (ledger.toldOpen() == 0) {
            return 0;
        }
        ledger.told--;
        return 1;
    }

    // ---- questions and their shelves

    public int feed(int a, int b, int c, int d, int e) {
        if (tape.fed + 20 > MOST_BYTES) {
            return NONE;
        }
        tape.put(a);
        tape.put(b);
        tape.put(c);
        tape.put(d);
        tape.put(e);
        return tape.fed;
    }

    public int question(int n) throws IllegalArgumentException {
        if (n < 0 || n > tape.fed) {
            throw new IllegalArgumentException("not so many bytes are there");
        }
        tape.begin(n);
        if (asked >= MOST_QUESTIONS) {
            return FULL;
        }
        if (!draft.readWhole()) {
            return tape.kind - 10;
        }
        questions[asked] = shelved();
        asked++;
        return asked - 1;
    }

    public int fault() {
        return tape.place;
    }

    public int leave(int question) throws NoSuchElementException {
        Question left = askedFor(question);
        left.left = true;
        int gone = 0;
        for (int i = 0; i < left.nodes; i++) {
            Shelf shelf = left.firstAt(i);
            if (shelf != null) {
                shelf.questions--;
                gone += shelf.questions == 0 ? 1 : 0;
            }
        }
        return gone;
    }

    public int nodes(int question) throws NoSuchElementException {
        return askedFor(question).nodes;
    }

    public int shelf(int question, int node)
            throws NoSuchElementException, IndexOutOfBoundsException {
        return shelfOf(askedFor(question), node).number;
    }

    public int front(int question, int node)
            throws NoSuchElementException, IndexOutOfBoundsException {
        return frontOf(shelfOf(askedFor(question), node));
    }

    public int work(int question, int node)
            throws NoSuchElementException, IndexOutOfBoundsException {
        Shelf shelf = shelfOf(askedFor(question), node);
        if (!canBeWorked(shelf)) {
            return -1;
        }
        shelf.front++;
        return shelf.front;
    }

    public int finish(int question) throws NoSuchElementException {
        Question wanted = askedFor(question);
        int times = worksTill(wanted, ledger.closed);
        for (int i = 0; i < wanted.nodes; i++) {
            Shelf shelf = wanted.at(i);
            if (shelf != null) {
                shelf.front = ledger.closed;
            }
        }
        return times;
    }

    public int ready(int question, int k) throws NoSuchElementException {
        Question wanted = askedFor(question);
        int before = 0;
        for (int i = 0; i < wanted.nodes; i++) {
            if (canBeWorked(wanted.at(i))) {
                if (before == k) {
                    return i;
                }
                before++;
            }
        }
        return NONE;
    }

    public int lacks(int question, int edition) throws NoSuchElementException {
        Question wanted = askedFor(question);
        return ledger.isClosed(edition) ? worksTill(wanted, edition + 1) : NONE;
    }

    public int fold(int edition) throws IllegalArgumentException {
        requireNumber(edition);
        int most = Math.min(edition, ledger.closed);
        for (int i = 0; i < shelvesMade && i < shelves.length; i++) {
            Shelf shelf = shelves[i];
            if (shelf != null && shelf.questions > 0) {
                most = Math.min(most, frontOf(shelf));
            }
        }
        for (int i = 0; i < readersMade && i < held.length; i++) {
            if (held[i] != NONE) {
                most = Math.min(most, held[i]);
            }
        }
        folded = Math.max(folded, most);
        return folded;
    }

    public int reader(int edition) throws IllegalArgumentException {
        requireNumber(edition);
        if (edition < folded - 1) {
            throw new IllegalArgumentException("the edition is folded away");
        }
        if (readersMade >= held.length) {
            return FULL;
        }
        held[readersMade] = edition;
        readersMade++;
        return readersMade - 1;
    }

    public int gone(int reader) throws IndexOutOfBoundsException {
        if (reader < 0 || reader >= readersMade || reader >= held.length || held[reader] == NONE) {
            throw new IndexOutOfBoundsException("no such reader");
        }
        int edition = held[reader];
        held[reader] = NONE;
        return edition;
    }

    // ---- what is told

    public int weight(int question, int node, int edition, int a, int b)
            throws NoSuchElementException, IndexOutOfBoundsException, IllegalArgumentException {
        Question wanted = askedFor(question);
        Shelf shelf = shelfOf(wanted, node);
        int cell = cellOf(a, b);
        return isTold(shelf, edition) ? countsAsOf(wanted, node, edition)[cell] : VOID;
    }

    public int answer(int question, int edition, int a, int b)
            throws NoSuchElementException, IllegalArgumentException {
        Question wanted = askedFor(question);
        int cell = cellOf(a, b);
        return isToldWhole(wanted, edition) ? answerAsOf(wanted, edition, cell) : NONE;
    }

    public int size(int question, int edition) throws NoSuchElementException {
        Question wanted = askedFor(question);
        if (!isToldWhole(wanted, edition)) {
            return NONE;
        }
        int[] counts = countsAsOf(wanted, wanted.last(), edition);
        int above = 0;
        for (int cell = 0; cell < CELLS; cell++) {
            above += counts[cell] > 0 ? 1 : 0;
        }
        return above;
    }

    public int row(int question, int edition, int k) throws NoSuchElementException {
        Question wanted = askedFor(question);
        if (!isToldWhole(wanted, edition)) {
            return NONE;
        }
        int[] counts = countsAsOf(wanted, wanted.last(), edition);
        int before = 0;
        for (int cell = 0; cell < CELLS; cell++) {
            if (counts[cell] > 0) {
                if (before == k) {
                    return cell;
                }
                before++;
            }
        }
        return NONE;
    }

    public int changed(int question, int node, int edition)
            throws NoSuchElementException, IndexOutOfBoundsException {
        Question wanted = askedFor(question);
        Shelf shelf = shelfOf(wanted, node);
        if (!isToldWithOneAhead(shelf, edition)) {
            return NONE;
        }
        return unlikeCounts(wanted, node, edition - 1, edition);
    }

    public int since(int question, int node, int from, int to)
            throws NoSuchElementException, IndexOutOfBoundsException {
        Question wanted = askedFor(question);
        Shelf shelf = shelfOf(wanted, node);
        if (!isTold(shelf, from) || !isTold(shelf, to)) {
            return NONE;
        }
        return unlikeCounts(wanted, node, from, to);
    }

    public int when(int question, int a, int b, int k)
            throws NoSuchElementException, IllegalArgumentException {
        Question wanted = askedFor(question);
        int cell = cellOf(a, b);
        int before = 0;
        for (int edition = Math.max(0, folded - 1); edition < ledger.closed; edition++) {
            if (isToldWithOneAhead(wanted.whole(), edition)
                    && answerAsOf(wanted, edition - 1, cell) != answerAsOf(wanted, edition, cell)) {
                if (before == k) {
                    return edition;
                }
                before++;
            }
        }
        return NONE;
    }

    public int unlike(int question, int other, int edition) throws NoSuchElementException {
        Question one = askedFor(question);
        Question two = askedFor(other);
        if (!isToldWhole(one, edition) || !isToldWhole(two, edition)) {
            return NONE;
        }
        System.arraycopy(countsAsOf(one, one.last(), edition), 0, earlier, 0, CELLS);
        int[] counts = countsAsOf(two, two.last(), edition);
        int unlike = 0;
        for (int cell = 0; cell < CELLS; cell++) {
            unlike += Math.max(0, earlier[cell]) != Math.max(0, counts[cell]) ? 1 : 0;
        }
        return unlike;
    }

    public int digest(int question, int node, int edition)
            throws NoSuchElementException, IndexOutOfBoundsException {
        Question wanted = askedFor(question);
        if (!isTold(shelfOf(wanted, node), edition)) {
            return 0;
        }
        int[] counts = countsAsOf(wanted, node, edition);
        int digest = 7;
        for (int cell = 0; cell < CELLS; cell++) {
            digest = 31 * digest + counts[cell];
        }
        return digest;
    }

    // ---- why, and what if

    public int way(int question, int node, int edition, int a, int b, int k)
            throws NoSuchElementException, IndexOutOfBoundsException, IllegalArgumentException {
        Question wanted = askedFor(question);
        Shelf shelf = shelfOf(wanted, node);
        cellOf(a, b);
        if (shelf.op != Op.LOOP || !isTold(shelf, edition)) {
            return NONE;
        }
        // an operator's last operand ends just ahead of it
        return worker.rowOfWay(countsAsOf(wanted, node - 1, edition), a, b, k);
    }

    public int without(int question, int edition, int a, int b, int table, int x, int y)
            throws NoSuchElementException, IndexOutOfBoundsException, IllegalArgumentException {
        Question wanted = askedFor(question);
        requireTable(table);
        int cell = cellOf(a, b);
        int taken = cellOf(x, y);
        if (!isToldWhole(wanted, edition)) {
            return NONE;
        }
        beginTrial(wanted, edition);
        tryCount(wanted, table, taken, 0);
        return triedAnswer(wanted, cell);
    }

    public int needed(int question, int edition, int a, int b, int table)
            throws NoSuchElementException, IndexOutOfBoundsException, IllegalArgumentException {
        Question wanted = askedFor(question);
        requireTable(table);
        int cell = cellOf(a, b);
        if (!isToldWhole(wanted, edition) || answerAsOf(wanted, edition, cell) == 0) {
            return NONE;
        }
        int[] counts = beginTrialOf(wanted, table, edition);
        int needed = 0;
        for (int taken = 0; taken < CELLS; taken++) {
            if (counts[taken] != 0) {
                tryCount(wanted, table, taken, 0);
                needed += triedAnswer(wanted, cell) == 0 ? 1 : 0;
                tryCount(wanted, table, taken, counts[taken]);
            }
        }
        return needed;
    }

    public int kern(int question, int edition, int a, int b, int k)
            throws NoSuchElementException, IllegalArgumentException {
        Question wanted = askedFor(question);
        int cell = cellOf(a, b);
        if (!isToldWhole(wanted, edition) || answerAsOf(wanted, edition, cell) == 0) {
            return NONE;
        }
        beginTrial(wanted, edition);
        int before = 0;
        for (int taken = 0; taken < TABLES * CELLS; taken++) {
            if (staysInKern(wanted, taken, cell)) {
                if (before == k) {
                    return taken;
                }
                before++;
            }
        }
        return NONE;
    }

    public int wanted(int question, int edition, int a, int b, int table, int k)
            throws NoSuchElementException, IndexOutOfBoundsException, IllegalArgumentException {
        Question asking = askedFor(question);
        requireTable(table);
        int cell = cellOf(a, b);
        if (!isToldWhole(asking, edition) || answerAsOf(asking, edition, cell) > 0) {
            return NONE;
        }
        int[] counts = beginTrialOf(asking, table, edition);
        int before = 0;
        for (int added = 0; added < CELLS; added++) {
            tryCount(asking, table, added, counts[added] + 1);
            if (triedAnswer(asking, cell) > 0) {
                if (before == k) {
                    return added;
                }
                before++;
            }
            tryCount(asking, table, added, counts[added]);
        }
        return k == NONE ? before : NONE;
    }

    public int count(int what) {
        switch (what) {
            case 0: return ledger.closed;
            case 1: return ledger.told;
            case 2: return ledger.toldOpen();
            case 3: return ledger.toldLate();
            case 4: return questionsNotLeft();
            case 5: return shelvesThatAre();
            case 6: return folded;
            case 7: return readersThatHold();
            case 8: return tape.fed;
            default: return NONE;
        }
    }

    // ---- what calls must bring

    private static void requireTable(int table) {
        if (table < 0 || table >= TABLES) {
            throw new IndexOutOfBoundsException("no such table");
        }
    }

    private static void requireMore(int more) {
        if (more == 0 || more < -MOST_MORE || more > MOST_MORE) {
            throw new IllegalArgumentException("not so many more");
        }
    }

    private static void requireNumber(int edition) {
        if (edition < 0 || edition > MOST_EDITIONS) {
            throw new IllegalArgumentException("no number of an edition");
        }
    }

    private static int cellOf(int a, int b) {
        if (a < 0 || a >= SIDE || b < 0 || b >= SIDE) {
            throw new IllegalArgumentException("no such row");
        }
        return a * SIDE + b;
    }

    private Question askedFor(int question) {
        Question found =
                question < 0 || question >= questions.length ? null : questions[question];
        if (found == null || found.left) {
            throw new NoSuchElementException("no such question");
        }
        return found;
    }

    private static Shelf shelfOf(Question question, int node) {
        Shelf shelf = question.at(node);
        if (shelf == null) {
            throw new IndexOutOfBoundsException("no such node");
        }
        return shelf;
    }

    // ---- counts that count() tells

    private int questionsNotLeft() {
        int there = 0;
        for (int i = 0; i < questions.length; i++) {
            there += questions[i] != null && !questions[i].left ? 1 : 0;
        }
        return there;
    }

    private int shelvesThatAre() {
        int there = 0;
        for (int i = 0; i < shelves.length; i++) {
            there += shelves[i] != null && shelves[i].questions > 0 ? 1 : 0;
        }
        return there;
    }

    private int readersThatHold() {
        int there = 0;
        for (int i = 0; i < readersMade && i < held.length; i++) {
            there += held[i] != NONE ? 1 : 0;
        }
        return there;
    }

    // ---- shelves

    /** The question that was read last, each of its operators on the shelf of its like. */
    private Question shelved() {
        Question made = new Question(draft.ended);
        for (int i = 0; i < draft.ended; i++) {
            Operator operator = draft.at(i);
            if (operator != null) {
                Shelf first = made.at(operator.first);
                Shelf second = made.at(operator.second);
                Shelf shelf = alike(operator, first, second);
                made.put(i, shelf == null ? newShelf(operator, first, second) : shelf,
                        operator.begin);
            }
        }
        return made;
    }

    private Shelf alike(Operator operator, Shelf first, Shelf second) {
        for (int i = 0; i < shelvesMade && i < shelves.length; i++) {
            Shelf shelf = shelves[i];
            if (shelf != null && shelf.questions > 0
                    && shelf.op == operator.op && shelf.table == operator.table
                    && shelf.first == first && shelf.second == second
                    && draft.hasSigns(operator, shelf.signs)) {
                return shelf;
            }
        }
        return null;
    }

    private Shelf newShelf(Operator operator, Shelf first, Shelf second) {
        Shelf shelf =
                new Shelf(shelvesMade, operator, draft.signsOf(operator), first, second);
        shelf.front = folded;
        if (shelvesMade < shelves.length) {
            shelves[shelvesMade] = shelf;
            shelvesMade++;
        }
        return shelf;
    }

    private int frontOf(Shelf shelf) {
        return shelf.op == Op.TABLE ? ledger.closed : shelf.front;
    }

    private boolean canBeWorked(Shelf shelf) {
        return shelf != null && shelf.op != Op.TABLE
                && (shelf.first == null || frontOf(shelf.first) > shelf.front)
                && (shelf.second == null || frontOf(shelf.second) > shelf.front);
    }

    private int worksTill(Question question, int front) {
        int times = 0;
        for (int i = 0; i < question.nodes; i++) {
            Shelf shelf = question.firstAt(i);
            if (shelf != null && shelf.op != Op.TABLE) {
                times += Math.max(0, front - shelf.front);
            }
        }
        return times;
    }

    // ---- counts as of an edition

    private boolean isTold(Shelf shelf, int edition) {
        return shelf != null && edition >= 0 && edition >= folded - 1
                && edition < frontOf(shelf);
    }

    private boolean isToldWhole(Question question, int edition) {
        return isTold(question.whole(), edition);
    }

    private boolean isToldWithOneAhead(Shelf shelf, int edition) {
        return isTold(shelf, edition) && (edition == 0 || isTold(shelf, edition - 1));
    }

    /** A node's counts as of an edition; the edition ahead of 0 (-1) has all 0. */
    private int[] countsAsOf(Question question, int node, int edition) {
        Shelf whole = question.at(node);
        if (whole == null) {
            return worker.nothing;
        }
        if (whole.state != ledger.stateOf(whole.tables, edition)) {
            for (int i = question.beginOf(node); i <= node; i++) {
                bringTo(question.at(i), edition);
            }
        }
        return whole.counts;
    }

    private int answerAsOf(Question question, int edition, int cell) {
        return Math.max(0, countsAsOf(question, question.last(), edition)[cell]);
    }

    /** The operands must have been brought to the same edition. */
    private void bringTo(Shelf shelf, int edition) {
        if (shelf == null) {
            return;
        }
        int state = ledger.stateOf(shelf.tables, edition);
        if (shelf.state == state) {
            return;
        }
        if (shelf.op == Op.TABLE) {
            ledger.fill(shelf.table, edition, shelf.counts);
        } else {
            worker.refresh(shelf, false, ALL_LINES);
        }
        shelf.state = state;
    }

    private int unlikeCounts(Question question, int node, int from, int to) {
        System.arraycopy(countsAsOf(question, node, from), 0, earlier, 0, CELLS);
        int[] counts = countsAsOf(question, node, to);
        int unlike = 0;
        for (int cell = 0; cell < CELLS; cell++) {
            unlike += earlier[cell] != counts[cell] ? 1 : 0;
        }
        return unlike;
    }

    // ---- trials: the counts of a question's shelves if tables had others

    private void beginTrial(Question question, int edition) {
        for (int i = 0; i < question.nodes; i++) {
            Shelf shelf = question.at(i);
            if (shelf != null) {
                bringTo(shelf, edition);
                System.arraycopy(shelf.counts, 0, shelf.tried, 0, CELLS);
            }
        }
    }

    /** Begins a trial; the table's counts, or all 0 if the question does not hang on it. */
    private int[] beginTrialOf(Question question, int table, int edition) {
        beginTrial(question, edition);
        Shelf shelf = question.ofTable(table);
        return shelf == null ? worker.nothing : shelf.counts;
    }

    /** Gives one row of a table another count in the trial; what hangs on it follows. */
    private void tryCount(Question question, int table, int cell, int count) {
        for (int i = 0; i < question.nodes; i++) {
            Shelf shelf = question.firstAt(i);
            if (shelf != null && shelf.op == Op.TABLE) {
                shelf.altered = shelf.table == table ? setTried(shelf, cell, count) : 0;
            } else if (shelf != null) {
                shelf.altered = worker.refresh(shelf, true, worker.linesToTry(shelf));
            }
        }
    }

    private static int setTried(Shelf shelf, int cell, int count) {
        int before = shelf.tried[cell];
        shelf.tried[cell] = count;
        return before == count ? 0 : 1 << (cell / SIDE);
    }

    private static int triedAnswer(Question question, int cell) {
        Shelf whole = question.whole();
        return whole == null ? 0 : Math.max(0, whole.tried[cell]);
    }

    /** Takes a row (256 times its table, and its cell) away, unless the answer needs it. */
    private boolean staysInKern(Question question, int taken, int cell) {
        int table = taken / CELLS;
        int row = taken % CELLS;
        Shelf shelf = question.ofTable(table);
        if (shelf == null || shelf.counts[row] <= 0) {
            return false;
        }
        tryCount(question, table, row, 0);
        if (triedAnswer(question, cell) > 0) {
            return false;
        }
        tryCount(question, table, row, shelf.counts[row]);
        return true;
    }

    /** The operators, each with its word and how many operands it has. */
    private enum Op {
        TABLE("t", 0), FLIP("flip", 1), ONE("one", 1), COUNT("count", 1), SUM("sum", 1),
        LEAST("least", 1), MIDDLE("middle", 1), MOST("most", 1), LOOP("loop", 1),
        JOIN("join", 2), ADD("add", 2), LESS("less", 2), BOTH("both", 2), WHERE("where", 1);

        private static final Op[] ALL = values();

        final String word;
        final int operands;

        Op(String word, int operands) {
            this.word = word;
            this.operands = operands;
        }
    }

    /** The changes told, in their order, and how many there were as each edition was closed. */
    private static final class Ledger {
        private final int[] tables = new int[MOST_CHANGES];
        private final int[] cells = new int[MOST_CHANGES];
        private final int[] mores = new int[MOST_CHANGES];
        private final int[] editions = new int[MOST_CHANGES];
        private final int[] lates = new int[MOST_CHANGES];
        private final int[] ends = new int[MOST_EDITIONS];
        int told;
        int closed;
        int room;

        boolean add(int table, int cell, int more, int late) {
            if (told >= MOST_CHANGES) {
                return false;
            }
            tables[told] = table;
            cells[told] = cell;
            mores[told] = more;
            editions[told] = closed;
            lates[told] = late;
            told++;
            return true;
        }

        boolean closeOpen() {
            if (closed >= MOST_EDITIONS) {
                return false;
            }
            ends[closed] = told;
            closed++;
            return true;
        }

        boolean isClosed(int edition) {
            return edition >= 0 && edition < closed;
        }

        /** How many changes there are up to an edition. */
        private int endOf(int edition) {
            if (edition < 0) {
                return 0;
            }
            return edition < closed && edition < ends.length ? ends[edition] : told;
        }

        int toldOpen() {
            return told - endOf(closed - 1);
        }

        int toldLate() {
            int late = 0;
            for (int i = 0; i < told; i++) {
                late += lates[i];
            }
            return late;
        }

        int total(int table, int cell, int edition) {
            int end = endOf(edition);
            int total = 0;
            for (int i = 0; i < end; i++) {
                total += tables[i] == table && cells[i] == cell ? mores[i] : 0;
            }
            return total;
        }

        void fill(int table, int edition, int[] counts) {
            Arrays.fill(counts, 0);
            int end = endOf(edition);
            for (int i = 0; i < end; i++) {
                if (tables[i] == table) {
                    counts[cells[i]] += mores[i];
                }
            }
        }

        /**
         * The latest change of some tables up to a closed edition (NONE: there is none): as long
         * as that is the same one, so are their counts, and all that follows from them.
         */
        int stateOf(int someTables, int edition) {
            for (int i = endOf(edition) - 1; i >= 0; i--) {
                if ((someTables >> tables[i] & 1) != 0) {
                    return i;
                }
            }
            return NONE;
        }

        int ofChange(int change, int what) {
            switch (what) {
                case 0: return tables[change];
                case 1: return cells[change] / SIDE;
                case 2: return cells[change] % SIDE;
                case 3: return mores[change];
                case 4: return editions[change];
                default: return lates[change];
            }
        }
    }

    /** The bytes fed, and the text among them that is read from left to right. */
    private static final class Tape {
        private final int[] bytes = new int[MOST_BYTES];
        int fed;
        int at;
        int kind;
        int place = NONE;
        private int end;

        void put(int number) {
            for (int shift = 24; shift >= 0; shift -= 8) {
                if (fed < bytes.length) {
                    bytes[fed] = number >>> shift & 255;
                    fed++;
                }
            }
        }

        /** Begins to read so many of the bytes fed, and empties the tape. */
        void begin(int length) {
            end = Math.max(0, Math.min(length, fed));
            fed = 0;
            at = 0;
            kind = 0;
            place = NONE;
        }

        boolean fail(int fault, int where) {
            kind = fault;
            place = where;
            return false;
        }

        int skipBlanks() {
            while (at < end && bytes[at] == ' ') {
                at++;
            }
            return at;
        }

        boolean takeEnd() {
            return skipBlanks() >= end || fail(CANNOT_STAND, at);
        }

        boolean isSign(int sign) {
            skipBlanks();
            return at < end && bytes[at] == sign;
        }

        boolean takeSign(int sign) {
            skipBlanks();
            if (at >= end || bytes[at] != sign) {
                return fail(CANNOT_STAND, at);
            }
            at++;
            return true;
        }

        /** How many bytes from one up to another stand next. */
        private int run(int least, int most) {
            int behind = at;
            while (behind < end && bytes[behind] >= least && bytes[behind] <= most) {
                behind++;
            }
            return behind - at;
        }

        int digits() {
            return run('0', '9');
        }

        /** Goes past a word if it, and no longer one, stands next. */
        boolean takeWord(String word) {
            skipBlanks();
            if (run('a', 'z') != word.length()) {
                return false;
            }
            for (int i = 0; i < word.length(); i++) {
                if (bytes[at + i] != word.charAt(i)) {
                    return false;
                }
            }
            at += word.length();
            return true;
        }

        /** Goes past the digits that stand next: their number, but 16 for all above 15. */
        int takeNumber() {
            int number = 0;
            while (at < end && bytes[at] >= '0' && bytes[at] <= '9') {
                number = Math.min(SIDE, number * 10 + bytes[at] - '0');
                at++;
            }
            return number;
        }
    }

    /** What was read of one operator; its operands are told by their places in the draft. */
    private static final class Operator {
        Op op = Op.TABLE;
        int table;
        int begin;
        int first;
        int second;
        int signsBegin;
        int signsEnd;
        final int[] holds = new int[SIDE];
    }

    /** The operators of a text, in the order in which they end in it. */
    private static final class Draft {
        private final Tape tape;
        private final Condition condition;
        private final Operator[] operators = new Operator[MOST_OPERATORS];
        private int begun;
        int ended;

        Draft(Tape tape) {
            this.tape = tape;
            this.condition = new Condition(tape);
            for (int i = 0; i < MOST_OPERATORS; i++) {
                operators[i] = new Operator();
            }
        }

        /** Null: there is none at that place. */
        Operator at(int place) {
            return place < 0 || place >= ended || place >= operators.length
                    ? null : operators[place];
        }

        int[] signsOf(Operator operator) {
            return Arrays.copyOfRange(condition.signs, operator.signsBegin, operator.signsEnd);
        }

        boolean hasSigns(Operator operator, int[] signs) {
            if (operator.signsEnd - operator.signsBegin != signs.length) {
                return false;
            }
            for (int i = 0; i < signs.length; i++) {
                if (condition.signs[operator.signsBegin + i] != signs[i]) {
                    return false;
                }
            }
            return true;
        }

        boolean readWhole() {
            begun = 0;
            ended = 0;
            condition.signCount = 0;
            return readOperator() && tape.takeEnd();
        }

        /** Calls itself no deeper than there may be operators. */
        private boolean readOperator() {
            int place = tape.skipBlanks();
            Op op = readWord();
            if (op == null) {
                return tape.fail(CANNOT_STAND, place);
            }
            int digits = op == Op.TABLE ? tape.digits() : 0;
            int table = digits > 0 ? tape.takeNumber() : NONE;
            if (digits > 1 || table >= TABLES) {
                return tape.fail(NONE_SUCH, place);
            }
            if (begun >= MOST_OPERATORS) {
                return tape.fail(TOO_MANY, place);
            }
            begun++;
            if (op != Op.TABLE) {
                return readOperands(op);
            }
            return digits == 0 ? tape.fail(CANNOT_STAND, tape.at)
                    : end(op, table, ended, NONE, NONE);
        }

        private Op readWord() {
            for (int i = 0; i < Op.ALL.length; i++) {
                if (tape.takeWord(Op.ALL[i].word)) {
                    return Op.ALL[i];
                }
            }
            return null;
        }

        private boolean readOperands(Op op) {
            int begin = ended;
            int first = readOperand('(');
            if (first == NONE) {
                return false;
            }
            int second = op.operands == 2 ? readOperand(',') : NONE;
            if (second == NONE && op.operands == 2) {
                return false;
            }
            condition.signsBegin = condition.signCount;
            if (op == Op.WHERE && !(tape.takeSign(':') && condition.readChoice(0))) {
                return false;
            }
            return tape.takeSign(')') && end(op, NONE, begin, first, second);
        }

        /** The operand's place in the draft; NONE: there was a fault. */
        private int readOperand(int sign) {
            return tape.takeSign(sign) && readOperator() ? ended - 1 : NONE;
        }

        private boolean end(Op op, int table, int begin, int first, int second) {
            Operator made = ended < operators.length ? operators[ended] : null;
            if (made == null) {
                return false;
            }
            ended++;
            made.op = op;
            made.table = table;
            made.begin = begin;
            made.first = first;
            made.second = second;
            made.signsBegin = op == Op.WHERE ? condition.signsBegin : condition.signCount;
            made.signsEnd = condition.signCount;
            if (op == Op.WHERE) {
                System.arraycopy(condition.choices[0], 0, made.holds, 0, SIDE);
            }
            return true;
        }
    }

    /**
     * Reads what stands behind the colon of a where: its signs, and for which rows it holds. A
     * level is how many of [ and not are open; each has its own lines, one set of B for each A.
     */
    private static final class Condition {
        // numbers stand for themselves and signs for their bytes, so these lie between
        private static final int OF_A = 16;
        private static final int OF_B = 17;
        private static final int NOT = 18;
        private static final int AND = 19;
        private static final int OR = 20;

        private final Tape tape;
        private final int[][] parts = new int[MOST_OPEN + 1][SIDE];
        private final int[][] bases = new int[MOST_OPEN + 1][SIDE];
        final int[][] choices = new int[MOST_OPEN + 1][SIDE];
        final int[] signs = new int[MOST_BYTES];
        int signCount;
        int signsBegin;

        Condition(Tape tape) {
            this.tape = tape;
        }

        private boolean readChoice(int level) {
            if (!readPart(level)) {
                return false;
            }
            System.arraycopy(parts[level], 0, choices[level], 0, SIDE);
            for (int i = 0; i < MOST_BYTES && tape.takeWord("or"); i++) {
                addSign(OR);
                if (!readPart(level)) {
                    return false;
                }
                for (int a = 0; a < SIDE; a++) {
                    choices[level][a] |= parts[level][a];
                }
            }
            return true;
        }

        private boolean readPart(int level) {
            if (!readBase(level)) {
                return false;
            }
            System.arraycopy(bases[level], 0, parts[level], 0, SIDE);
            for (int i = 0; i < MOST_BYTES && tape.takeWord("and"); i++) {
                addSign(AND);
                if (!readBase(level)) {
                    return false;
                }
                for (int a = 0; a < SIDE; a++) {
                    parts[level][a] &= bases[level][a];
                }
            }
            return true;
        }

        private boolean readBase(int level) {
            int place = tape.skipBlanks();
            boolean isNot = tape.takeWord("not");
            if (!isNot && !tape.isSign('[')) {
                return readComparison(level);
            }
            if (level >= MOST_OPEN) {
                return tape.fail(TOO_MANY, place);
            }
            return isNot ? readNot(level) : readBracket(level);
        }

        private boolean readNot(int level) {
            addSign(NOT);
            if (!readBase(level + 1)) {
                return false;
            }
            for (int a = 0; a < SIDE; a++) {
                bases[level][a] = ~bases[level + 1][a];
            }
            return true;
        }

        private boolean readBracket(int level) {
            if (!readSign('[') || !readChoice(level + 1) || !readSign(']')) {
                return false;
            }
            System.arraycopy(choices[level + 1], 0, bases[level], 0, SIDE);
            return true;
        }

        private boolean readComparison(int level) {
            int left = readTerm();
            int sign = left == NONE ? NONE : readRelation();
            int right = sign == NONE ? NONE : readTerm();
            if (right == NONE) {
                return false;
            }
            for (int a = 0; a < SIDE; a++) {
                bases[level][a] = lineOf(left, sign, right, a);
            }
            return true;
        }

        /** A number, OF_A or OF_B; NONE: there was a fault. */
        private int readTerm() {
            int place = tape.skipBlanks();
            if (tape.digits() > 0) {
                int number = tape.takeNumber();
                return number < SIDE ? addSign(number) : failed(NONE_SUCH, place);
            }
            if (tape.takeWord("a")) {
                return addSign(OF_A);
            }
            return tape.takeWord("b") ? addSign(OF_B) : failed(CANNOT_STAND, place);
        }

        /** The sign of a relation; NONE: there was a fault. */
        private int readRelation() {
            int sign = tape.isSign('<') ? '<' : tape.isSign('>') ? '>' : '=';
            return tape.takeSign(sign) ? addSign(sign) : NONE;
        }

        private boolean readSign(int sign) {
            if (!tape.takeSign(sign)) {
                return false;
            }
            addSign(sign);
            return true;
        }

        private int failed(int fault, int place) {
            tape.fail(fault, place);
            return NONE;
        }

        private int addSign(int sign) {
            if (signCount < signs.length) {
                signs[signCount] = sign;
                signCount++;
            }
            return sign;
        }

        private static int lineOf(int left, int sign, int right, int a) {
            int line = 0;
            for (int b = 0; b < SIDE; b++) {
                int order = Integer.compare(valueOf(left, a, b), valueOf(right, a, b));
                boolean holds = sign == '<' ? order < 0 : sign == '>' ? order > 0 : order == 0;
                line |= holds ? 1 << b : 0;
            }
            return line;
        }

        private static int valueOf(int term, int a, int b) {
            return term == OF_A ? a : term == OF_B ? b : term;
        }
    }

    /** Alike operators of all questions: how far they are done, and their counts. */
    private static final class Shelf {
        final int number;
        final Op op;
        final int table;
        final int[] signs;
        final int[] holds;
        final Shelf first;
        final Shelf second;
        final int tables;
        final int[] counts = new int[CELLS];
        final int[] tried = new int[CELLS];
        int front;
        int questions;
        // without any change all counts of every operator are 0
        int state = NONE;
        int altered;

        Shelf(int number, Operator operator, int[] signs, Shelf first, Shelf second) {
            this.number = number;
            this.op = operator.op;
            this.table = operator.table;
            this.signs = signs;
            this.holds = operator.holds.clone();
            this.first = first;
            this.second = second;
            this.tables = (operator.op == Op.TABLE ? 1 << operator.table : 0)
                    | (first == null ? 0 : first.tables) | (second == null ? 0 : second.tables);
        }
    }

    /** A question's nodes, each with its shelf and the first of the nodes below it. */
    private static final class Question {
        final int nodes;
        private final Shelf[] shelves = new Shelf[MOST_OPERATORS];
        private final int[] begins = new int[MOST_OPERATORS];
        private final boolean[] repeated = new boolean[MOST_OPERATORS];
        boolean left;

        Question(int nodes) {
            this.nodes = nodes;
        }

        void put(int node, Shelf shelf, int begin) {
            if (node < 0 || node >= shelves.length) {
                return;
            }
            for (int i = 0; i < node; i++) {
                repeated[node] |= shelves[i] == shelf;
            }
            shelves[node] = shelf;
            begins[node] = begin;
            shelf.questions += repeated[node] ? 0 : 1;
        }

        /** Null: there is no such node. */
        Shelf at(int node) {
            return node < 0 || node >= nodes || node >= shelves.length ? null : shelves[node];
        }

        /** As at(), but null too if a node ahead has the same shelf. */
        Shelf firstAt(int node) {
            Shelf shelf = at(node);
            return shelf == null || repeated[node] ? null : shelf;
        }

        int beginOf(int node) {
            return node < 0 || node >= begins.length ? 0 : begins[node];
        }

        int last() {
            return nodes - 1;
        }

        Shelf whole() {
            return at(last());
        }

        /** The shelf of a table; null: the question does not hang on it. */
        Shelf ofTable(int table) {
            for (int i = 0; i < nodes; i++) {
                Shelf shelf = at(i);
                if (shelf != null && shelf.op == Op.TABLE && shelf.table == table) {
                    return shelf;
                }
            }
            return null;
        }
    }

    /** Works out operators' counts from their operands', line by line. */
    private static final class Worker {
        final int[] nothing = new int[CELLS];
        private final int[] fresh = new int[SIDE];
        private final int[] links = new int[SIDE];
        private final int[] steps = new int[SIDE];

        /** Sets some lines of a shelf's counts (or tried ones): those that are not as they were. */
        int refresh(Shelf shelf, boolean trial, int lines) {
            int[] first = countsOf(shelf.first, trial);
            int[] second = countsOf(shelf.second, trial);
            int[] counts = countsOf(shelf, trial);
            if (shelf.op == Op.LOOP && lines != 0) {
                link(first);
                extendLinks();
            }
            int altered = 0;
            for (int a = 0; a < SIDE; a++) {
                if ((lines >> a & 1) != 0) {
                    workLine(shelf, first, second, a);
                    altered |= keepLine(counts, a) ? 1 << a : 0;
                }
            }
            return altered;
        }

        /** Which lines of a shelf may be others, now that some of its operands' are. */
        int linesToTry(Shelf shelf) {
            int ofFirst = shelf.first == null ? 0 : shelf.first.altered;
            int ofSecond = shelf.second == null ? 0 : shelf.second.altered;
            if (shelf.op == Op.FLIP || shelf.op == Op.LOOP) {
                return ofFirst == 0 ? 0 : ALL_LINES;
            }
            if (shelf.op == Op.JOIN) {
                return ofFirst | linesThatMeet(countsOf(shelf.first, true), ofSecond);
            }
            return ofFirst | ofSecond;
        }

        private int[] countsOf(Shelf shelf, boolean trial) {
            if (shelf == null) {
                return nothing;
            }
            return trial ? shelf.tried : shelf.counts;
        }

        private static int linesThatMeet(int[] counts, int some) {
            int lines = 0;
            for (int cell = 0; some != 0 && cell < CELLS; cell++) {
                if (counts[cell] != 0 && (some >> cell % SIDE & 1) != 0) {
                    lines |= 1 << cell / SIDE;
                }
            }
            return lines;
        }

        private boolean keepLine(int[] counts, int a) {
            boolean altered = false;
            for (int b = 0; b < SIDE; b++) {
                altered |= counts[a * SIDE + b] != fresh[b];
                counts[a * SIDE + b] = fresh[b];
            }
            return altered;
        }

        private void workLine(Shelf shelf, int[] first, int[] second, int a) {
            switch (shelf.op) {
                case FLIP:
                case ONE:
                case WHERE:
                    takeOver(shelf, first, a);
                    break;
                case LOOP:
                    spread(links[a]);
                    break;
                case JOIN:
                    joinLine(first, second, a);
                    break;
                case ADD:
                case LESS:
                case BOTH:
                    putTogether(shelf.op, first, second, a);
                    break;
                default:
                    int mark = markOf(shelf.op, first, a);
                    spread(mark == NONE ? 0 : 1 << mark);
                    break;
            }
        }

        /** 1 for each B of a set, 0 for the others. */
        private void spread(int set) {
            for (int b = 0; b < SIDE; b++) {
                fresh[b] = set >> b & 1;
            }
        }

        private void takeOver(Shelf shelf, int[] first, int a) {
            for (int b = 0; b < SIDE; b++) {
                int count = first[a * SIDE + b];
                if (shelf.op == Op.FLIP) {
                    fresh[b] = first[b * SIDE + a];
                } else if (shelf.op == Op.ONE) {
                    fresh[b] = count > 0 ? 1 : 0;
                } else {
                    fresh[b] = (shelf.holds[a] >> b & 1) != 0 ? count : 0;
                }
            }
        }

        private void putTogether(Op op, int[] first, int[] second, int a) {
            for (int b = 0; b < SIDE; b++) {
                int one = first[a * SIDE + b];
                int two = second[a * SIDE + b];
                fresh[b] = op == Op.ADD ? one + two
                        : op == Op.LESS ? one - two : Math.min(one, two);
            }
        }

        private void joinLine(int[] first, int[] second, int a) {
            Arrays.fill(fresh, 0);
            for (int b = 0; b < SIDE; b++) {
                int count = first[a * SIDE + b];
                for (int c = 0; count != 0 && c < SIDE; c++) {
                    fresh[c] += count * second[b * SIDE + c];
                }
            }
        }

        /** The one B that has 1 in a line of count, sum, least, middle or most; NONE. */
        private static int markOf(Op op, int[] counts, int a) {
            int above = positives(counts, a);
            int many = Integer.bitCount(above);
            switch (op) {
                case COUNT: return countMark(counts, a);
                case SUM: return many == 0 ? NONE : sumMark(counts, a);
                case LEAST: return pick(above, 0);
                case MIDDLE: return pick(above, (many - 1) / 2);
                default: return pick(above, many - 1);
            }
        }

        private static int countMark(int[] counts, int a) {
            int n = 0;
            for (int b = 0; b < SIDE; b++) {
                n += counts[a * SIDE + b];
            }
            return n <= 0 ? NONE : n < SIDE ? n : SIDE - 1;
        }

        private static int sumMark(int[] counts, int a) {
            int n = 0;
            for (int b = 0; b < SIDE; b++) {
                n += b * counts[a * SIDE + b];
            }
            return n & SIDE - 1;
        }

        /** The set of all B for which a line has more than 0. */
        private static int positives(int[] counts, int a) {
            int set = 0;
            for (int b = 0; b < SIDE; b++) {
                set |= counts[a * SIDE + b] > 0 ? 1 << b : 0;
            }
            return set;
        }

        /** The k-th of a set, from 0 on; NONE: there is none. */
        private static int pick(int set, int k) {
            int before = 0;
            for (int b = 0; b < SIDE; b++) {
                if ((set >> b & 1) != 0) {
                    if (before == k) {
                        return b;
                    }
                    before++;
                }
            }
            return NONE;
        }

        /** Sets for each A where one comes by one row. */
        private void link(int[] counts) {
            for (int a = 0; a < SIDE; a++) {
                links[a] = positives(counts, a);
            }
        }

        /** Sets for each A where one comes by one row or more. */
        private void extendLinks() {
            for (int by = 0; by < SIDE; by++) {
                for (int a = 0; a < SIDE; a++) {
                    links[a] |= (links[a] >> by & 1) != 0 ? links[by] : 0;
                }
            }
        }

        /** The k-th row of the way from a to b by the counts above 0; NONE. */
        int rowOfWay(int[] counts, int a, int b, int k) {
            link(counts);
            measureSteps(b);
            int from = a;
            for (int i = 0; i < SIDE; i++) {
                int to = nextOfWay(from);
                if (to == NONE || to == b && i < k) {
                    return NONE;
                }
                if (i == k) {
                    return from * SIDE + to;
                }
                from = to;
            }
            return NONE;
        }

        /** Sets for each A how many rows it is away from b, which is 0 away; NONE: no way. */
        private void measureSteps(int b) {
            Arrays.fill(steps, NONE);
            steps[b] = 0;
            int reached = 1 << b;
            for (int away = 1; away < SIDE; away++) {
                int nearer = reached;
                for (int a = 0; a < SIDE; a++) {
                    if (steps[a] == NONE && (links[a] & nearer) != 0) {
                        steps[a] = away;
                        reached |= 1 << a;
                    }
                }
            }
        }

        /** Of all that one row from a leads to the least that is nearest to the way's end. */
        private int nextOfWay(int a) {
            int next = NONE;
            for (int to = 0; to < SIDE; to++) {
                boolean leads = (links[a] >> to & 1) != 0 && steps[to] != NONE;
                if (leads && (next == NONE || steps[to] < steps[next])) {
                    next = to;
                }
            }
            return next;
        }
    }
}
