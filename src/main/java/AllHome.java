import java.util.Arrays;

/** Huts that wake one another by word, and ways of knowing when everyone is home. See README.md. */
public final class AllHome {
    public static final int BAD = -1, NOT = -2, FULL = -3, BIG = -4, STATE = -5, VOID = -2000000000;

    private static final int NOTHING_THERE = -11, OTHER_KIND = -12, NO_SUCH_PLACE = -13, SIZE_BELOW_0 = -14;
    /** What is answered inside when all is well; every refusal is below 0. */
    private static final int DONE = 1;
    private static final int NONE = -1;

    private static final int MOST_HUTS = 6, MOST_BYTES = 60, MOST_WAYS = 10, MOST_RUNS = 4, MOST_SHELVES = 6;

    // The kinds of ways, the kind that each stands under, and the one whose keeping it shares.
    private static final int WAY = 0, LANTERN = 1, STICK = 2, RING = 3, STONE = 4, SUMS = 5;
    private static final int LOOSE = 6, PALE = 7, HASTY = 8, KINDS = 9;
    private static final int[] ABOVE = {NONE, WAY, WAY, WAY, RING, RING, STICK, STONE, SUMS};
    private static final int[] FAMILY = {WAY, LANTERN, STICK, RING, STONE, SUMS, STICK, STONE, SUMS};

    private static final int SENDING = 0, COMING = 1, NOTING = 2, ASKING = 3, LOSING = 4;

    // A state is a row of cells. The first of them are the work: what huts and words are in every way.
    private static final int ON_THE_WAY = 8;
    private static final int AWAKE = 0, WOKEN = AWAKE + MOST_HUTS, LINE_SENT = WOKEN + MOST_HUTS;
    private static final int WORDS = LINE_SENT + MOST_HUTS, FROM = WORDS + 1, TO = FROM + ON_THE_WAY;
    private static final int WORK_CELLS = TO + ON_THE_WAY;
    private static final int WORD_UNITS = WORK_CELLS, NOTES = WORD_UNITS + ON_THE_WAY;
    private static final int NOTE_TO = NOTES + 1, NOTE_FIRST = NOTE_TO + ON_THE_WAY;
    private static final int NOTE_SECOND = NOTE_FIRST + ON_THE_WAY;
    private static final int UNITS = NOTE_SECOND + ON_THE_WAY, TOTAL = UNITS + MOST_HUTS;
    private static final int OUT = TOTAL + 1, PARENT = OUT + MOST_HUTS, IN_TREE = PARENT + MOST_HUTS;
    private static final int SUM = IN_TREE + MOST_HUTS, BLACK = SUM + MOST_HUTS;
    private static final int SENT = BLACK + MOST_HUTS, CAME = SENT + MOST_HUTS;
    private static final int AHEAD = CAME + MOST_HUTS, AHEAD_SENT = AHEAD + 1, AHEAD_CAME = AHEAD_SENT + 1;
    private static final int SAYS_OVER = AHEAD_CAME + 1;
    // Behind here stands what makes no state unlike another.
    private static final int LIKE_CELLS = SAYS_OVER + 1;
    private static final int WORDS_EVER = LIKE_CELLS, NOTES_EVER = WORDS_EVER + 1;
    private static final int ALL_CELLS = NOTES_EVER + 1;

    // What can be asked of a hut in a run: its cells, and the family of ways that keeps them.
    private static final int[] HUT_CELLS =
        {AWAKE, WOKEN, LINE_SENT, UNITS, OUT, PARENT, IN_TREE, SUM, BLACK, SENT, CAME};
    private static final int[] HUT_FAMILY =
        {NONE, NONE, NONE, LANTERN, STICK, STICK, STICK, STONE, STONE, SUMS, SUMS};

    private final int[] tape = new int[MOST_BYTES];
    private int tapeLength;
    private final Huts huts = new Huts();
    private final int[] kinds = new int[MOST_WAYS];
    private int ways;
    private final Run[] runs = new Run[MOST_RUNS];
    private int runsBegun;
    private final int[] spare = new int[ALL_CELLS];
    private final Orders orders = new Orders(huts);
    private final Orders plainOrders = new Orders(huts);
    private final Acts acts = new Acts();
    private final Shelf[] shelves = new Shelf[MOST_SHELVES];

    public AllHome() {
        for (int r = 0; r < MOST_RUNS; r++) {
            runs[r] = new Run(huts);
        }
        for (int s = 0; s < MOST_SHELVES; s++) {
            shelves[s] = new Shelf();
        }
    }

    // ---- huts, ways

    public int feed(int n, int v) {
        if (n < 1 || n > 4) {
            return BAD;
        }
        if (tapeLength > MOST_BYTES - n) {
            return FULL;
        }
        for (int k = 0; k < n; k++) {
            tape[tapeLength + k] = (v >> (8 * k)) & 255;
        }
        tapeLength += n;
        return tapeLength;
    }

    public int hut() {
        if (runsBegun > 0) {
            return STATE;
        }
        if (huts.size() >= MOST_HUTS) {
            return FULL;
        }
        int fault = huts.read(tape, tapeLength);
        tapeLength = 0;
        if (fault != NONE) {
            return -100 - fault;
        }
        orders.forget();
        plainOrders.forget();
        return huts.size() - 1;
    }

    public int line(int hut, int line) {
        if (!huts.has(hut) || line < -1 || line >= huts.linesOf(hut)) {
            return BAD;
        }
        return line == -1 ? huts.linesOf(hut) : huts.wordsOf(hut, line);
    }

    public int goesTo(int hut, int line, int i) {
        if (!huts.has(hut) || i < 0 || i >= huts.wordsOf(hut, line)) {
            return BAD;
        }
        return huts.goal(hut, line, i);
    }

    public int way(int kind) {
        if (!isKind(kind)) {
            return BAD;
        }
        if (ways >= MOST_WAYS) {
            return FULL;
        }
        kinds[ways] = kind;
        ways++;
        return ways - 1;
    }

    public int kindOf(int way) {
        return isWay(way) ? kinds[way] : BAD;
    }

    // ---- runs

    public int run(int way) {
        if (!isWay(way)) {
            return BAD;
        }
        if (huts.size() == 0) {
            return STATE;
        }
        if (runsBegun >= MOST_RUNS) {
            return FULL;
        }
        runs[runsBegun].begin(way, kinds[way]);
        runsBegun++;
        return runsBegun - 1;
    }

    public int step(int run, int sort, int i) {
        if (!isRun(run) || sort < SENDING || sort > LOSING) {
            return BAD;
        }
        return runs[run].advance(spare, sort, i);
    }

    public int steps(int run, int shelf, int i, int n) {
        if (!isRun(run) || !isShelf(shelf) || n < 1 || n > Shelf.MOST) {
            return BAD;
        }
        Shelf told = shelves[shelf];
        if (told.isEmpty()) {
            return 0;
        }
        if (!told.isRowOf(Shelf.SHORTS)) {
            return OTHER_KIND;
        }
        int done = 0;
        while (done < n && told.hasPlace(i) && told.hasPlace(i + done)) {
            int code = (int) told.at(i + done);
            // Below 0 no sort is told, and / would cut -1 .. -99 to sort 0.
            if (code < 0 || runs[run].advance(spare, code / 100, code % 100) < 0) {
                return done;
            }
            done++;
        }
        return done;
    }

    public int ofRun(int run, int what) {
        return isRun(run) ? runs[run].tell(what) : BAD;
    }

    public int ofHut(int run, int hut, int what) {
        if (!isRun(run) || !huts.has(hut) || what < 0 || what >= HUT_CELLS.length) {
            return VOID;
        }
        if (HUT_FAMILY[what] != NONE && HUT_FAMILY[what] != runs[run].family()) {
            return VOID;
        }
        return runs[run].cell(HUT_CELLS[what] + hut);
    }

    public int word(int run, int i, int what) {
        if (!isRun(run) || i < 0 || i >= runs[run].cell(WORDS)) {
            return BAD;
        }
        switch (what) {
            case 0: return runs[run].cell(FROM + i);
            case 1: return runs[run].cell(TO + i);
            case 2: return runs[run].cell(WORD_UNITS + i);
            default: return BAD;
        }
    }

    public int note(int run, int i, int what) {
        if (!isRun(run) || i < 0 || i >= runs[run].cell(NOTES)) {
            return VOID;
        }
        switch (what) {
            case 0: return runs[run].cell(NOTE_TO + i);
            case 1: return runs[run].cell(NOTE_FIRST + i);
            case 2: return runs[run].cell(NOTE_SECOND + i);
            default: return VOID;
        }
    }

    public int total(int run) {
        if (!isRun(run)) {
            return BAD;
        }
        return runs[run].family() == LANTERN ? runs[run].cell(TOTAL) : NOT;
    }

    // ---- all orders

    public int states(int way) {
        int refusal = goThrough(way);
        return refusal < 0 ? refusal : orders.size();
    }

    public int least(int way, int what, int i) {
        if (what < 0 || what > 1 || i < -1) {
            return BAD;
        }
        int refusal = goThrough(way);
        if (refusal < 0) {
            return refusal;
        }
        int found = what == 0 ? orders.early() : orders.soon();
        if (found == NONE) {
            return NOT;
        }
        int length = orders.stepsTo(found);
        if (i == -1) {
            return length;
        }
        return i < length ? orders.stepOnTheWayTo(found, i) : BAD;
    }

    public int stuck(int way) {
        int refusal = goThrough(way);
        return refusal < 0 ? refusal : orders.stuckStates();
    }

    public int work(int way, int what) {
        if (what < 0 || what > 1) {
            return BAD;
        }
        int refusal = goThrough(way);
        if (refusal < 0) {
            return refusal;
        }
        if (what == 0) {
            return orders.unlikeWorks();
        }
        plainOrders.explore(WAY);
        if (plainOrders.isBig()) {
            return BIG;
        }
        return orders.unlikeWorks() == plainOrders.unlikeWorks() ? 1 : 0;
    }

    // ---- acts, shelves

    public int act(int way, int act, int x) {
        acts.clear();
        if (!isWay(way) || act < 0 || act >= Acts.COUNT) {
            return 0;
        }
        return acts.begin(kinds[way], way, act, x);
    }

    public int trace(int i) {
        return acts.traced(i);
    }

    public int keep(int shelf, int way) {
        if (!isShelf(shelf) || (way != NONE && !isWay(way))) {
            return BAD;
        }
        shelves[shelf].holdWay(way);
        return DONE;
    }

    public int row(int shelf, int sort, int n) {
        if (!isShelf(shelf) || sort < Shelf.BYTES || sort > Shelf.BOOLEANS || n > Shelf.MOST) {
            return BAD;
        }
        if (n < 0) {
            return SIZE_BELOW_0;
        }
        shelves[shelf].holdRow(sort, n);
        return DONE;
    }

    public int put(int shelf, int i, long v) {
        int refusal = wantPlace(shelf, i);
        if (refusal < 0) {
            return refusal;
        }
        shelves[shelf].set(i, v);
        return DONE;
    }

    public long element(int shelf, int i) {
        return wantPlace(shelf, i) < 0 ? Long.MIN_VALUE : shelves[shelf].at(i);
    }

    public int shift(int shelf, int i, int other, int j, int n) {
        if (!isShelf(shelf) || !isShelf(other)) {
            return BAD;
        }
        Shelf source = shelves[shelf];
        Shelf goal = shelves[other];
        if (source.isEmpty() || goal.isEmpty()) {
            return NOTHING_THERE;
        }
        if (!source.isRow() || !goal.isRowOf(source.sort())) {
            return OTHER_KIND;
        }
        if (!source.hasPlaces(i, n) || !goal.hasPlaces(j, n)) {
            return NO_SUCH_PLACE;
        }
        source.copyTo(i, goal, j, n);
        return n;
    }

    public int taken(int shelf, int k) {
        if (!isShelf(shelf) || !isKind(k)) {
            return BAD;
        }
        if (shelves[shelf].isEmpty()) {
            return NOTHING_THERE;
        }
        int held = shelves[shelf].heldWay();
        if (!isWay(held) || !isUnder(kinds[held], k)) {
            return OTHER_KIND;
        }
        return kinds[held];
    }

    public int count(int what) {
        switch (what) {
            case 0: return huts.size();
            case 1: return ways;
            case 2: return runsBegun;
            case 3: return tapeLength;
            case 4: return acts.ran();
            default: return BAD;
        }
    }

    // ---- what several calls look at

    private boolean isWay(int way) {
        return way >= 0 && way < ways;
    }

    private boolean isRun(int run) {
        return run >= 0 && run < runsBegun;
    }

    private static boolean isShelf(int shelf) {
        return shelf >= 0 && shelf < MOST_SHELVES;
    }

    private static boolean isKind(int kind) {
        return kind >= 0 && kind < KINDS;
    }

    /** Whether a kind is another one, or stands under it. */
    private static boolean isUnder(int kind, int top) {
        int at = kind;
        for (int up = 0; up < KINDS && isKind(at); up++) {
            if (at == top) {
                return true;
            }
            at = ABOVE[at];
        }
        return false;
    }

    /** All orders of a way are then found in 'orders'; or a refusal. */
    private int goThrough(int way) {
        if (!isWay(way)) {
            return BAD;
        }
        if (huts.size() == 0) {
            return STATE;
        }
        orders.explore(kinds[way]);
        return orders.isBig() ? BIG : DONE;
    }

    /** Whether a shelf has a row with such a place; or the refusal. */
    private int wantPlace(int shelf, int i) {
        if (!isShelf(shelf)) {
            return BAD;
        }
        if (shelves[shelf].isEmpty()) {
            return NOTHING_THERE;
        }
        if (!shelves[shelf].isRow()) {
            return OTHER_KIND;
        }
        return shelves[shelf].hasPlace(i) ? DONE : NO_SUCH_PLACE;
    }

    private static boolean isOver(int[] cells) {
        for (int h = 0; h < MOST_HUTS; h++) {
            if (cells[AWAKE + h] == 1) {
                return false;
            }
        }
        return cells[WORDS] == 0;
    }

    /** The huts with their programs: of each, the goals of all its words, line behind line. */
    private static final class Huts {
        /** A digit and a letter are two bytes for nine words. */
        private static final int MOST_WORDS = MOST_BYTES / 2 * 9;
        private static final int MOST_LINES = MOST_BYTES + 1;

        private final int[][] goals = new int[MOST_HUTS][MOST_WORDS];
        /** Where each line begins; one more than there are lines, so that the last has an end. */
        private final int[][] starts = new int[MOST_HUTS][MOST_LINES + 1];
        private final int[] lines = new int[MOST_HUTS];
        private int size;

        int size() {
            return size;
        }

        boolean has(int hut) {
            return hut >= 0 && hut < size;
        }

        int linesOf(int hut) {
            return has(hut) ? lines[hut] : 0;
        }

        /** Behind the last line (and ahead of the first) there are no words. */
        int wordsOf(int hut, int line) {
            if (!has(hut) || line < 0 || line >= lines[hut]) {
                return 0;
            }
            return starts[hut][line + 1] - starts[hut][line];
        }

        int goal(int hut, int line, int i) {
            if (!has(hut) || line < 0 || line >= lines[hut]) {
                return NONE;
            }
            int words = starts[hut][line + 1] - starts[hut][line];
            return i >= 0 && i < words ? goals[hut][starts[hut][line] + i] : NONE;
        }

        /** One more hut with the bytes as its program: NONE; or the fault, and no hut. */
        int read(int[] bytes, int length) {
            if (size >= MOST_HUTS || length < 0 || length > MOST_BYTES || length > bytes.length) {
                return 0;
            }
            int line = 0;
            int words = 0;
            int times = 0;
            for (int p = 0; p < length; p++) {
                int sign = bytes[p];
                int goal = sign - 'a';
                if (goal >= 0 && goal < MOST_HUTS && goal != size) {
                    words = addWords(words, goal, times == 0 ? 1 : times);
                    times = 0;
                } else if (sign == ';' && times == 0) {
                    line++;
                    starts[size][line] = words;
                } else if (sign >= '2' && sign <= '9' && times == 0) {
                    times = sign - '0';
                } else {
                    return p;
                }
            }
            if (times != 0) {
                return length;
            }
            starts[size][line + 1] = words;
            lines[size] = line + 1;
            size++;
            return NONE;
        }

        private int addWords(int words, int goal, int times) {
            for (int k = 0; k < times && words + k < MOST_WORDS; k++) {
                goals[size][words + k] = goal;
            }
            return Math.min(words + times, MOST_WORDS);
        }
    }

    /** What each step does to the cells of a state, as a kind of way has it. */
    private static final class Rules {
        private static final int WHOLE_LANTERN = 64;

        private final Huts huts;
        private int kind;
        private int family;

        Rules(Huts huts) {
            this.huts = huts;
        }

        int family() {
            return family;
        }

        void begin(int[] cells, int ofKind) {
            kind = isKind(ofKind) ? ofKind : WAY;
            family = FAMILY[kind];
            Arrays.fill(cells, 0);
            cells[AWAKE] = 1;
            cells[WOKEN] = 1;
            if (family == LANTERN) {
                cells[UNITS] = WHOLE_LANTERN;
                cells[TOTAL] = WHOLE_LANTERN;
            }
            if (family == STICK) {
                cells[IN_TREE] = 1;
                for (int h = 0; h < MOST_HUTS; h++) {
                    cells[PARENT + h] = NONE;
                }
            }
        }

        /** DONE, STATE or FULL. A refused step may leave the cells half changed: hand in a copy. */
        int apply(int[] cells, int sort, int i) {
            int answer = STATE;
            switch (sort) {
                case SENDING: answer = goOn(cells, i); break;
                case COMING: answer = comeWord(cells, i); break;
                case NOTING: answer = comeNote(cells, i); break;
                case ASKING: answer = ask(cells, i); break;
                case LOSING: answer = lose(cells, i); break;
                default: break;
            }
            if (answer == DONE && family == STICK) {
                answer = leaveTree(cells);
            }
            if (answer == DONE && seesAllHome(cells)) {
                cells[SAYS_OVER] = 1;
            }
            return answer;
        }

        private int goOn(int[] cells, int h) {
            if (!huts.has(h) || cells[AWAKE + h] == 0) {
                return STATE;
            }
            int line = cells[WOKEN + h] - 1;
            if (cells[LINE_SENT + h] < huts.wordsOf(h, line)) {
                return send(cells, h, huts.goal(h, line, cells[LINE_SENT + h]));
            }
            cells[AWAKE + h] = 0;
            int units = cells[UNITS + h];
            if (family != LANTERN || h == 0 || units == 0) {
                return DONE;
            }
            cells[UNITS + h] = 0;
            return sendNote(cells, 0, units, 0);
        }

        private int send(int[] cells, int h, int goal) {
            cells[LINE_SENT + h]++;
            cells[WORDS_EVER]++;
            int units = 0;
            switch (family) {
                case LANTERN: units = partUnits(cells, h); break;
                case STICK: cells[OUT + h]++; break;
                case STONE: cells[SUM + h]++; break;
                case SUMS: cells[SENT + h]++; break;
                default: break;
            }
            if (!huts.has(goal)) {
                return DONE;
            }
            int i = cells[WORDS];
            if (i < 0 || i >= ON_THE_WAY) {
                return FULL;
            }
            cells[FROM + i] = h;
            cells[TO + i] = goal;
            cells[WORD_UNITS + i] = units;
            cells[WORDS] = i + 1;
            return DONE;
        }

        private static int partUnits(int[] cells, int h) {
            if (cells[UNITS + h] <= 1) {
                cells[UNITS + h] += WHOLE_LANTERN;
                cells[TOTAL] += WHOLE_LANTERN;
            }
            int half = cells[UNITS + h] / 2;
            cells[UNITS + h] -= half;
            return half;
        }

        private static int sendNote(int[] cells, int to, int first, int second) {
            int i = cells[NOTES];
            if (i < 0 || i >= ON_THE_WAY) {
                return FULL;
            }
            cells[NOTE_TO + i] = to;
            cells[NOTE_FIRST + i] = first;
            cells[NOTE_SECOND + i] = second;
            cells[NOTES] = i + 1;
            cells[NOTES_EVER]++;
            return DONE;
        }

        /** 'counter' is the cell that says how many are on the way: WORDS or NOTES. */
        private static boolean isOnTheWay(int[] cells, int counter, int i) {
            return i >= 0 && i < cells[counter] && i < ON_THE_WAY;
        }

        private int comeWord(int[] cells, int i) {
            if (!isOnTheWay(cells, WORDS, i)) {
                return STATE;
            }
            int from = cells[FROM + i];
            int to = cells[TO + i];
            int units = cells[WORD_UNITS + i];
            // Only words to huts that there are get on the way; looked at again, as it is an index from here on.
            if (!huts.has(to)) {
                return STATE;
            }
            takeAwayWord(cells, i);
            if (cells[AWAKE + to] == 0) {
                cells[AWAKE + to] = 1;
                cells[WOKEN + to]++;
                cells[LINE_SENT + to] = 0;
            }
            switch (family) {
                case LANTERN: cells[UNITS + to] += units; break;
                case STICK: return joinTree(cells, from, to);
                case STONE: cells[SUM + to]--; cells[BLACK + to] = kind == PALE ? 0 : 1; break;
                case SUMS: cells[CAME + to]++; break;
                default: break;
            }
            return DONE;
        }

        private static int joinTree(int[] cells, int from, int to) {
            if (cells[IN_TREE + to] == 1) {
                return sendNote(cells, from, 0, 0);
            }
            cells[IN_TREE + to] = 1;
            cells[PARENT + to] = from;
            return DONE;
        }

        private static int lose(int[] cells, int i) {
            if (!isOnTheWay(cells, WORDS, i)) {
                return STATE;
            }
            takeAwayWord(cells, i);
            return DONE;
        }

        private static void takeAwayWord(int[] cells, int i) {
            cells[WORDS]--;
            closeGap(cells, FROM, i);
            closeGap(cells, TO, i);
            closeGap(cells, WORD_UNITS, i);
        }

        /** The last place becomes 0, so that states that are alike have the same cells. */
        private static void closeGap(int[] cells, int start, int i) {
            for (int k = i; k < ON_THE_WAY - 1; k++) {
                cells[start + k] = cells[start + k + 1];
            }
            cells[start + ON_THE_WAY - 1] = 0;
        }

        private int comeNote(int[] cells, int i) {
            if (!isOnTheWay(cells, NOTES, i)) {
                return STATE;
            }
            int to = cells[NOTE_TO + i];
            int first = cells[NOTE_FIRST + i];
            int second = cells[NOTE_SECOND + i];
            if (!huts.has(to) || (family == STONE && cells[AWAKE + to] == 1)) {
                return STATE;
            }
            cells[NOTES]--;
            closeGap(cells, NOTE_TO, i);
            closeGap(cells, NOTE_FIRST, i);
            closeGap(cells, NOTE_SECOND, i);
            switch (family) {
                case LANTERN: cells[UNITS + to] += first; return DONE;
                case STICK: cells[OUT + to]--; return DONE;
                case STONE: return takeStone(cells, to, first, second);
                case SUMS: return takeSums(cells, to, first, second);
                default: return DONE;
            }
        }

        private static int takeStone(int[] cells, int h, int sum, int black) {
            if (h == 0) {
                if (black == 0 && cells[BLACK] == 0 && sum + cells[SUM] == 0) {
                    cells[SAYS_OVER] = 1;
                }
                return DONE;
            }
            int blacker = black == 1 || cells[BLACK + h] == 1 ? 1 : 0;
            cells[BLACK + h] = 0;
            return sendNote(cells, h - 1, sum + cells[SUM + h], blacker);
        }

        private int takeSums(int[] cells, int h, int sent, int came) {
            if (h != 0) {
                int next = h + 1 < huts.size() ? h + 1 : 0;
                return sendNote(cells, next, sent + cells[SENT + h], came + cells[CAME + h]);
            }
            boolean likeAhead = cells[AHEAD] == 1 && cells[AHEAD_SENT] == sent && cells[AHEAD_CAME] == came;
            if (sent == came && (kind == HASTY || likeAhead)) {
                cells[SAYS_OVER] = 1;
                return DONE;
            }
            cells[AHEAD] = 1;
            cells[AHEAD_SENT] = sent;
            cells[AHEAD_CAME] = came;
            return DONE;
        }

        private int ask(int[] cells, int i) {
            if (i != 0 || !isUnder(kind, RING) || cells[NOTES] > 0 || cells[AWAKE] == 1) {
                return STATE;
            }
            if (family == STONE) {
                cells[BLACK] = 0;
                return sendNote(cells, huts.size() - 1, 0, 0);
            }
            if (family == SUMS) {
                return sendNote(cells, huts.size() > 1 ? 1 : 0, cells[SENT], cells[CAME]);
            }
            return DONE;
        }

        private int leaveTree(int[] cells) {
            int answer = DONE;
            for (int h = 1; h < huts.size() && answer == DONE; h++) {
                boolean mayLeave = kind == LOOSE || cells[OUT + h] == 0;
                if (mayLeave && cells[IN_TREE + h] == 1 && cells[AWAKE + h] == 0) {
                    answer = sendNote(cells, cells[PARENT + h], 0, 0);
                    cells[IN_TREE + h] = 0;
                    cells[PARENT + h] = NONE;
                }
            }
            return answer;
        }

        /** Lanterns and sticks are looked at behind each step; ring ways say so at a note alone. */
        private boolean seesAllHome(int[] cells) {
            if (cells[AWAKE] == 1) {
                return false;
            }
            boolean unitsAreHome = family == LANTERN && cells[UNITS] == cells[TOTAL];
            boolean sticksAreHome = family == STICK && cells[OUT] <= 0;
            return unitsAreHome || sticksAreHome;
        }
    }

    /** A run: its state, and when what was first so. */
    private static final class Run {
        private final Rules rules;
        private final int[] cells = new int[ALL_CELLS];
        private int way;
        private int done;
        private int saidAt;
        private int overAt;

        Run(Huts huts) {
            rules = new Rules(huts);
        }

        void begin(int ofWay, int kind) {
            rules.begin(cells, kind);
            way = ofWay;
            done = 0;
            saidAt = NOT;
            overAt = NOT;
        }

        int family() {
            return rules.family();
        }

        int cell(int c) {
            return c >= 0 && c < ALL_CELLS ? cells[c] : VOID;
        }

        /** How many steps were done; or the refusal. The step is tried in the spare cells first. */
        int advance(int[] spare, int sort, int i) {
            System.arraycopy(cells, 0, spare, 0, ALL_CELLS);
            int answer = rules.apply(spare, sort, i);
            if (answer != DONE) {
                return answer;
            }
            System.arraycopy(spare, 0, cells, 0, ALL_CELLS);
            done++;
            if (cells[SAYS_OVER] == 1 && saidAt == NOT) {
                saidAt = done;
            }
            if (!isOver(cells)) {
                overAt = NOT;
            } else if (overAt == NOT) {
                overAt = done;
            }
            return done;
        }

        int tell(int what) {
            switch (what) {
                case 0: return way;
                case 1: return done;
                case 2: return cells[WORDS];
                case 3: return cells[NOTES];
                case 4: return isOver(cells) ? 1 : 0;
                case 5: return cells[SAYS_OVER];
                case 6: return hutsAwake();
                case 7: return cells[WORDS_EVER];
                case 8: return cells[NOTES_EVER];
                case 9: return saidAt;
                case 10: return overAt;
                default: return BAD;
            }
        }

        private int hutsAwake() {
            int awake = 0;
            for (int h = 0; h < MOST_HUTS; h++) {
                awake += cells[AWAKE + h];
            }
            return awake;
        }
    }

    /** All orders of steps of a kind of way, gone through in breadth; kept until the huts change. */
    private static final class Orders {
        private static final int MOST_STATES = 150, MOST_HUTS_HERE = 4;
        private static final int MOST_NEXT = MOST_HUTS_HERE + ON_THE_WAY + ON_THE_WAY + 1;

        private final Huts huts;
        private final Rules rules;
        private final int[][] found = new int[MOST_STATES][ALL_CELLS];
        /** A number made of all cells of a state: unlike ones are told apart faster. */
        private final int[] prints = new int[MOST_STATES];
        private final int[] ahead = new int[MOST_STATES];
        private final int[] stepHere = new int[MOST_STATES];
        private final int[] depth = new int[MOST_STATES];
        private final int[][] next = new int[MOST_STATES][MOST_NEXT];
        private final int[] nexts = new int[MOST_STATES];
        private final boolean[] canSay = new boolean[MOST_STATES];
        private final int[] spare = new int[ALL_CELLS];
        private int size;
        private boolean big;
        private int explored = NONE;

        Orders(Huts huts) {
            this.huts = huts;
            rules = new Rules(huts);
        }

        void forget() {
            explored = NONE;
        }

        boolean isBig() {
            return big;
        }

        int size() {
            return size;
        }

        void explore(int kind) {
            if (kind == explored) {
                return;
            }
            explored = kind;
            size = 0;
            big = huts.size() > MOST_HUTS_HERE;
            rules.begin(spare, kind);
            addSpare(NONE, 0);
            for (int s = 0; s < size && s < MOST_STATES; s++) {
                int lastSort = found[s][SAYS_OVER] == 1 ? NONE : ASKING;
                for (int sort = SENDING; sort <= lastSort; sort++) {
                    int numbers = numbersOf(found[s], sort);
                    for (int i = 0; i < numbers && !big; i++) {
                        tryStep(s, sort, i);
                    }
                }
            }
        }

        private int numbersOf(int[] cells, int sort) {
            switch (sort) {
                case SENDING: return huts.size();
                case COMING: return cells[WORDS];
                case NOTING: return cells[NOTES];
                default: return 1;
            }
        }

        private void tryStep(int s, int sort, int i) {
            System.arraycopy(found[s], 0, spare, 0, ALL_CELLS);
            if (rules.apply(spare, sort, i) != DONE) {
                return;
            }
            int t = findSpare();
            if (t == NONE) {
                t = addSpare(s, 100 * sort + i);
            }
            if (t != NONE && nexts[s] < MOST_NEXT) {
                next[s][nexts[s]] = t;
                nexts[s]++;
            }
        }

        private int findSpare() {
            int print = printOf(spare);
            for (int t = 0; t < size; t++) {
                if (prints[t] == print && alike(found[t], spare, LIKE_CELLS)) {
                    return t;
                }
            }
            return NONE;
        }

        private int addSpare(int from, int code) {
            if (size >= MOST_STATES) {
                big = true;
                return NONE;
            }
            System.arraycopy(spare, 0, found[size], 0, ALL_CELLS);
            prints[size] = printOf(spare);
            ahead[size] = from;
            stepHere[size] = code;
            depth[size] = from >= 0 && from < size ? depth[from] + 1 : 0;
            nexts[size] = 0;
            size++;
            return size - 1;
        }

        private static int printOf(int[] cells) {
            int print = 0;
            for (int c = 0; c < LIKE_CELLS; c++) {
                print = print * 31 + cells[c];
            }
            return print;
        }

        private static boolean alike(int[] one, int[] other, int cells) {
            for (int c = 0; c < cells; c++) {
                if (one[c] != other[c]) {
                    return false;
                }
            }
            return true;
        }

        /** The first state in which the way says over and it is not so; or NONE. */
        int early() {
            return firstSaying(false);
        }

        /** The first state in which the way says over and it is so; or NONE. */
        int soon() {
            return firstSaying(true);
        }

        private int firstSaying(boolean inTruth) {
            for (int s = 0; s < size; s++) {
                if (found[s][SAYS_OVER] == 1 && isOver(found[s]) == inTruth) {
                    return s;
                }
            }
            return NONE;
        }

        int stepsTo(int s) {
            return s >= 0 && s < size ? depth[s] : 0;
        }

        int stepOnTheWayTo(int s, int i) {
            int at = s;
            for (int back = stepsTo(s) - 1; back > i && at >= 0 && at < size; back--) {
                at = ahead[at];
            }
            return at >= 0 && at < size ? stepHere[at] : BAD;
        }

        int stuckStates() {
            for (int s = 0; s < size; s++) {
                canSay[s] = found[s][SAYS_OVER] == 1;
            }
            boolean more = true;
            for (int pass = 0; pass < MOST_STATES && more; pass++) {
                more = spreadCanSay();
            }
            int stuck = 0;
            for (int s = 0; s < size; s++) {
                stuck += canSay[s] ? 0 : 1;
            }
            return stuck;
        }

        /** From the last state on, as most steps lead to later ones: few passes do. */
        private boolean spreadCanSay() {
            boolean more = false;
            for (int s = size - 1; s >= 0; s--) {
                for (int k = 0; k < nexts[s] && k < MOST_NEXT && !canSay[s]; k++) {
                    int t = next[s][k];
                    if (t >= 0 && t < size && canSay[t]) {
                        canSay[s] = true;
                        more = true;
                    }
                }
            }
            return more;
        }

        int unlikeWorks() {
            int unlike = 0;
            for (int s = 0; s < size; s++) {
                boolean isNew = true;
                for (int t = 0; t < s && isNew; t++) {
                    isNew = !alike(found[s], found[t], WORK_CELLS);
                }
                unlike += isNew ? 1 : 0;
            }
            return unlike;
        }
    }

    /** The acts of ways: bodies that call one another, from below or from above. */
    private static final class Acts {
        static final int COUNT = 4;

        private static final int SENDS = 0, ASKS = 1, OWES = 2, TELLS = 3;
        /** The body of each kind for each act; 0: it has none, and the kind above is asked. */
        private static final int[] BODIES = {
            1, 10, 11, 2,
            20, 0, 0, 0,
            0, 0, 30, 0,
            0, 40, 0, 0,
            50, 0, 0, 0,
            0, 0, 61, 60,
            0, 0, 70, 0,
            0, 80, 0, 0,
            0, 0, 0, 90,
        };
        private static final int MOST_TRACED = 24, DEEPEST = 30;

        private final int[] traced = new int[MOST_TRACED];
        private int ran;
        private int kind;
        private int number;

        void clear() {
            ran = 0;
        }

        int ran() {
            return ran;
        }

        int traced(int i) {
            return i >= 0 && i < ran && i < MOST_TRACED ? traced[i] : BAD;
        }

        int begin(int ofKind, int ofNumber, int act, int x) {
            kind = ofKind;
            number = ofNumber;
            return perform(kind, act, x, 0);
        }

        /** An act by the body of a kind, or of the next one above that has one. */
        private int perform(int from, int act, int x, int level) {
            int at = from;
            for (int up = 0; up < KINDS && bodyOf(at, act) == 0; up++) {
                at = isKind(at) ? ABOVE[at] : NONE;
            }
            int body = bodyOf(at, act);
            if (body == 0 || !isKind(at) || level > DEEPEST) {
                return 0;
            }
            begun(body);
            int above = ABOVE[at];
            int deeper = level + 1;
            switch (body) {
                case 1: return x + number;
                case 2: return perform(kind, ASKS, x, deeper) - perform(kind, OWES, 1, deeper);
                case 10: return perform(kind, SENDS, x, deeper) * 2;
                case 11: return x ^ number;
                case 20: return perform(above, SENDS, x, deeper) / 2;
                case 30: return perform(above, OWES, x, deeper) + perform(kind, SENDS, 2, deeper);
                case 40: return perform(above, ASKS, x, deeper) - 1;
                case 50: return perform(above, SENDS, x, deeper) * 3;
                case 60: return perform(above, TELLS, x, deeper) ^ 5;
                case 61: return perform(above, OWES, x + 1, deeper);
                case 70: return -perform(above, OWES, x, deeper);
                case 80: return perform(above, ASKS, x, deeper) + perform(above, SENDS, x, deeper);
                case 90: return perform(above, TELLS, x, deeper) * 2;
                default: return 0;
            }
        }

        private static int bodyOf(int ofKind, int act) {
            if (!isKind(ofKind) || act < 0 || act >= COUNT) {
                return 0;
            }
            return BODIES[ofKind * COUNT + act];
        }

        private void begun(int body) {
            if (ran < MOST_TRACED) {
                traced[ran] = body;
            }
            ran++;
        }
    }

    /** A shelf: it holds nothing, a way, or a row of numbers of one sort. */
    private static final class Shelf {
        static final int MOST = 60;
        static final int BYTES = 0, SHORTS = 1, INTS = 2, LONGS = 3, BOOLEANS = 4;

        private final long[] elements = new long[MOST];
        private int length;
        private int sort = NONE;
        private int way = NONE;

        /** NONE for the way: the shelf holds nothing. */
        void holdWay(int ofWay) {
            way = ofWay;
            sort = NONE;
            length = 0;
        }

        void holdRow(int ofSort, int n) {
            way = NONE;
            sort = ofSort;
            length = Math.max(0, Math.min(n, MOST));
            Arrays.fill(elements, 0L);
        }

        boolean isEmpty() {
            return way == NONE && sort == NONE;
        }

        boolean isRow() {
            return sort != NONE;
        }

        boolean isRowOf(int ofSort) {
            return sort == ofSort;
        }

        int sort() {
            return sort;
        }

        int heldWay() {
            return way;
        }

        boolean hasPlace(int i) {
            return i >= 0 && i < length;
        }

        /** The same test as for a copy in the machine: of no elements, a place at the end is there. */
        boolean hasPlaces(int i, int n) {
            return n >= 0 && i >= 0 && i <= length - n;
        }

        long at(int i) {
            return hasPlace(i) ? elements[i] : Long.MIN_VALUE;
        }

        void set(int i, long v) {
            if (hasPlace(i)) {
                elements[i] = lowestBits(v);
            }
        }

        private long lowestBits(long v) {
            switch (sort) {
                case BYTES: return (byte) v;
                case SHORTS: return (short) v;
                case INTS: return (int) v;
                case BOOLEANS: return v != 0 ? 1 : 0;
                default: return v;
            }
        }

        void copyTo(int i, Shelf goal, int j, int n) {
            if (hasPlaces(i, n) && goal.hasPlaces(j, n)) {
                System.arraycopy(elements, i, goal.elements, j, n);
            }
        }
    }
}
