/**
 * A court for histories of calls by many callers to one thing: whether some order, one call after
 * the other, explains all answers. README.md tells how to use it.
 *
 * <p>Sets of CALLS are held as bits of an int, bit c for CALL c: a HISTORY has 10 at most.
 */
public final class HistoryCourt {
    public static final int NONE = -1, BAD = -2, STATE = -3, FULL = -4;

    private static final int MOST_MACHINES = 4;
    private static final int MOST_HISTORIES = 12;
    private static final int MOST_CALLS = 10;
    private static final int CALLERS = 4;
    private static final int KEYS = 4;

    private static final int STRICT = 0, QUIET = 1, RULES = 3;

    private static final int IS_AN_ORDER = 100;
    private static final int LONG_BITS = 64;

    private final Table[] tables = new Table[MOST_MACHINES];
    private int tableCount;
    private final History[] histories = new History[MOST_HISTORIES];
    private int historyCount;
    private final Search search = new Search();
    private final Answers fillings = new Answers();
    private int leastPart;
    private final int[] said = new int[MOST_CALLS];
    private int saidCount;
    private int status;

    public HistoryCourt() {
    }

    public int machine() {
        if (tableCount >= MOST_MACHINES) {
            return FULL;
        }
        tables[tableCount] = new Table();
        tableCount++;
        return tableCount - 1;
    }

    public int row(int machine, int state, int act, int answer, int next) {
        Table table = tableOf(machine);
        if (table == null) {
            return NONE;
        }
        if (!Table.has(state, act) || !Table.has(next, act)) {
            return BAD;
        }
        if (table.isUsed) {
            return STATE;
        }
        table.tell(state, act, answer, next);
        return 0;
    }

    public int history(int kind, int machine) {
        boolean ofMachine = kind == Model.MACHINE;
        Table table = ofMachine ? tableOf(machine) : null;
        if (!Model.isKind(kind) || ofMachine && table == null) {
            return NONE;
        }
        if (!ofMachine && machine != 0) {
            return BAD;
        }
        if (historyCount >= MOST_HISTORIES) {
            return FULL;
        }
        if (table != null) {
            table.isUsed = true;
        }
        return keep(new History(kind, table));
    }

    public int copy(int h) {
        History found = historyOf(h);
        if (found == null) {
            return NONE;
        }
        if (historyCount >= MOST_HISTORIES) {
            return FULL;
        }
        return keep(found.twin());
    }

    public int begin(int h, int caller, int act, int a, int b) {
        History found = historyOf(h);
        if (found == null) {
            return NONE;
        }
        if (caller < 0 || caller >= CALLERS || !Model.allows(found.kind, act, a)) {
            return BAD;
        }
        if (found.isWaiting(caller)) {
            return STATE;
        }
        if (found.calls >= MOST_CALLS) {
            return FULL;
        }
        return found.start(caller, act, a, b);
    }

    public int answer(int h, int call, int v) {
        History found = historyOf(h);
        if (found == null || !found.hasCall(call)) {
            return NONE;
        }
        if (!found.isOpen(call)) {
            return STATE;
        }
        return found.end(call, v);
    }

    public int alter(int h, int call, int v) {
        int was = answered(h, call);
        History found = historyOf(h);
        if (status == 0 && found != null && found.hasCall(call)) {
            found.value[call] = v;
        }
        return was;
    }

    public int status() {
        return status;
    }

    public int answered(int h, int call) {
        History found = historyOf(h);
        if (found == null || !found.hasCall(call)) {
            status = NONE;
            return 0;
        }
        if (found.isOpen(call)) {
            status = STATE;
            return 0;
        }
        status = 0;
        return found.value[call];
    }

    public int call(int h, int call, int what) {
        History found = historyOf(h);
        if (found == null || !found.hasCall(call)) {
            return NONE;
        }
        switch (what) {
            case 0: return found.caller[call];
            case 1: return found.act[call];
            case 2: return found.begun[call];
            case 3: return found.ended[call];
            default: return NONE;
        }
    }

    public int about(int h, int what) {
        History found = historyOf(h);
        if (found == null) {
            return NONE;
        }
        switch (what) {
            case 0: return found.kind;
            case 1: return found.calls;
            case 2: return found.calls - Integer.bitCount(found.endedCalls());
            case 3: return found.ticks;
            default: return NONE;
        }
    }

    public int ahead(int h, int rule, int x, int y) {
        History found = historyOf(h);
        if (found == null || !isRule(rule) || !found.hasCall(x) || !found.hasCall(y)) {
            return NONE;
        }
        return found.isAhead(rule, found.quietTicks(found.allCalls()), x, y) ? 1 : 0;
    }

    public int judge(int h, int rule) {
        History found = historyOf(h);
        if (found == null || !isRule(rule)) {
            return NONE;
        }
        return search.takes(found, rule, found.allCalls()) ? 1 : 0;
    }

    public int first(int h, int rule, int i) {
        History found = historyOf(h);
        if (found == null || !isRule(rule) || i < 0 || i >= MOST_CALLS) {
            return NONE;
        }
        return search.firstAt(found, rule, i);
    }

    public long orders(int h, int rule) {
        History found = historyOf(h);
        if (found == null || !isRule(rule)) {
            return NONE;
        }
        return search.count(found, rule);
    }

    public int least(int h, int rule) {
        History found = historyOf(h);
        if (found == null || !isRule(rule)) {
            return NONE;
        }
        leastPart = search.leastPart(found, rule);
        return Integer.bitCount(leastPart);
    }

    public int part(int i) {
        int place = 0;
        for (int c = 0; c < MOST_CALLS; c++) {
            if (holds(leastPart, c)) {
                if (place == i) {
                    return c;
                }
                place++;
            }
        }
        return NONE;
    }

    public int fills(int h, int rule, int call) {
        History found = historyOf(h);
        if (found == null || !isRule(rule) || !found.hasCall(call)) {
            return NONE;
        }
        if (!found.isOpen(call)) {
            return STATE;
        }
        search.collect(found, rule, call, fillings);
        return fillings.count;
    }

    public int fill(int i) {
        if (i < 0 || i >= fillings.count) {
            status = NONE;
            return 0;
        }
        status = 0;
        return fillings.values[i];
    }

    public int apart(int h, int rule, int key) {
        History found = historyOf(h);
        boolean isKey = key >= 0 && key < KEYS;
        if (found == null || !isRule(rule) || found.kind != Model.MAP || !isKey) {
            return NONE;
        }
        return search.takes(found, rule, found.callsWith(key)) ? 1 : 0;
    }

    public int rules(int h) {
        History found = historyOf(h);
        if (found == null) {
            return NONE;
        }
        int taking = 0;
        for (int rule = 0; rule < RULES; rule++) {
            if (search.takes(found, rule, found.allCalls())) {
                taking |= 1 << rule;
            }
        }
        return taking;
    }

    public int say(int call) {
        if (call < 0 || call >= MOST_CALLS) {
            return BAD;
        }
        if (saidCount >= MOST_CALLS) {
            return FULL;
        }
        said[saidCount] = call;
        saidCount++;
        return saidCount;
    }

    public int check(int h, int rule) {
        History found = historyOf(h);
        if (found == null || !isRule(rule)) {
            return NONE;
        }
        int length = saidCount;
        saidCount = 0;
        return search.firstFault(found, rule, said, length);
    }

    private Table tableOf(int machine) {
        return machine >= 0 && machine < tableCount ? tables[machine] : null;
    }

    private History historyOf(int h) {
        return h >= 0 && h < historyCount ? histories[h] : null;
    }

    private int keep(History history) {
        if (historyCount >= MOST_HISTORIES) {
            return FULL;
        }
        histories[historyCount] = history;
        historyCount++;
        return historyCount - 1;
    }

    private static boolean isRule(int rule) {
        return rule >= 0 && rule < RULES;
    }

    private static boolean holds(int calls, int c) {
        return (calls >> c & 1) != 0;
    }

    /** The table of a MACHINE. */
    private static final class Table {
        static final int STATES = 8, ACTS = 4;

        private final int[] answers = new int[STATES * ACTS];
        private final int[] nexts = new int[STATES * ACTS];
        boolean isUsed;

        static boolean has(long state, int act) {
            return state >= 0 && state < STATES && act >= 0 && act < ACTS;
        }

        private static int placeOf(long state, int act) {
            return (int) state * ACTS + act;
        }

        void tell(int state, int act, int answer, int next) {
            if (has(state, act)) {
                answers[placeOf(state, act)] = answer;
                nexts[placeOf(state, act)] = next;
            }
        }

        int answerIn(long state, int act) {
            return has(state, act) ? answers[placeOf(state, act)] : 0;
        }

        int nextIn(long state, int act) {
            return has(state, act) ? nexts[placeOf(state, act)] : 0;
        }
    }

    /** The CALLS of one HISTORY, with their TICKS. */
    private static final class History {
        final int kind;
        /** Null, but for a MACHINE. */
        final Table table;
        int calls;
        int ticks;
        final int[] caller = new int[MOST_CALLS];
        final int[] act = new int[MOST_CALLS];
        final int[] a = new int[MOST_CALLS];
        final int[] b = new int[MOST_CALLS];
        final int[] begun = new int[MOST_CALLS];
        /** The TICK of the answer; 0 while the CALL is OPEN. */
        final int[] ended = new int[MOST_CALLS];
        final int[] value = new int[MOST_CALLS];

        History(int kind, Table table) {
            this.kind = kind;
            this.table = table;
        }

        History twin() {
            History twin = new History(kind, table);
            twin.calls = calls;
            twin.ticks = ticks;
            System.arraycopy(caller, 0, twin.caller, 0, MOST_CALLS);
            System.arraycopy(act, 0, twin.act, 0, MOST_CALLS);
            System.arraycopy(a, 0, twin.a, 0, MOST_CALLS);
            System.arraycopy(b, 0, twin.b, 0, MOST_CALLS);
            System.arraycopy(begun, 0, twin.begun, 0, MOST_CALLS);
            System.arraycopy(ended, 0, twin.ended, 0, MOST_CALLS);
            System.arraycopy(value, 0, twin.value, 0, MOST_CALLS);
            return twin;
        }

        boolean hasCall(int c) {
            return c >= 0 && c < calls;
        }

        boolean isOpen(int c) {
            return hasCall(c) && ended[c] == 0;
        }

        boolean isWaiting(int someCaller) {
            for (int c = 0; c < calls; c++) {
                if (caller[c] == someCaller && ended[c] == 0) {
                    return true;
                }
            }
            return false;
        }

        int start(int byCaller, int ofAct, int withA, int withB) {
            if (calls >= MOST_CALLS) {
                return FULL;
            }
            ticks++;
            caller[calls] = byCaller;
            act[calls] = ofAct;
            a[calls] = withA;
            b[calls] = withB;
            begun[calls] = ticks;
            calls++;
            return calls - 1;
        }

        int end(int c, int v) {
            if (!hasCall(c)) {
                return NONE;
            }
            ticks++;
            ended[c] = ticks;
            value[c] = v;
            return ticks;
        }

        int allCalls() {
            return (1 << calls) - 1;
        }

        int endedCalls() {
            int some = 0;
            for (int c = 0; c < calls; c++) {
                if (ended[c] != 0) {
                    some |= 1 << c;
                }
            }
            return some;
        }

        int callsWith(int key) {
            int some = 0;
            for (int c = 0; c < calls; c++) {
                if (a[c] == key) {
                    some |= 1 << c;
                }
            }
            return some;
        }

        /** As bits, the TICKS at which no CALL of the part is under way; there are 20 at most. */
        int quietTicks(int part) {
            int quiet = 0;
            for (int tick = 1; tick <= ticks; tick++) {
                if (isQuiet(part, tick)) {
                    quiet |= 1 << tick;
                }
            }
            return quiet;
        }

        private boolean isQuiet(int part, int tick) {
            for (int c = 0; c < calls; c++) {
                boolean isOver = ended[c] != 0 && ended[c] <= tick;
                if (holds(part, c) && begun[c] <= tick && !isOver) {
                    return false;
                }
            }
            return true;
        }

        /** Both CALLS are there; the quiet TICKS are told, for they hang on the part. */
        boolean isAhead(int rule, int quiet, int x, int y) {
            if (isOpen(x) || ended[x] >= begun[y]) {
                return false;
            }
            if (rule == STRICT || caller[x] == caller[y]) {
                return true;
            }
            int ticksBetween = (1 << begun[y]) - (1 << ended[x]);
            return rule == QUIET && (quiet & ticksBetween) != 0;
        }
    }

    /**
     * What a thing answers and becomes. Its state is one long, so that a search can go back without
     * undoing anything, and know a state again: of a CELL and a COUNTER the value; of a SET a bit for
     * each member; of a MACHINE its state. Values of the others would not fit, so there a value is
     * told by four bits, the number of the CALL that brought it, and 1 more (0: there is none): of a
     * QUEUE and a STACK the one that is TAKEN next is lowest; of a MAP KEY 0 is.
     */
    private static final class Model {
        static final int CELL = 0, COUNTER = 1, QUEUE = 2, STACK = 3, SET = 4, MAP = 5, MACHINE = 6;
        static final int KINDS = 7;

        private static final int[] ACTS = {3, 2, 2, 2, 3, 3, 4};
        private static final int READ = 0, WRITE = 1;
        private static final int PUT = 0;
        private static final int ADD = 0, DROP = 1;
        private static final int MEMBERS = 16;
        private static final int WIDTH = 4, LOWEST = 15;

        static boolean isKind(int kind) {
            return kind >= 0 && kind < KINDS;
        }

        static boolean allows(int kind, int act, int a) {
            if (!isKind(kind) || act < 0 || act >= ACTS[kind]) {
                return false;
            }
            if (kind == SET) {
                return a >= 0 && a < MEMBERS;
            }
            return kind != MAP || a >= 0 && a < KEYS;
        }

        /** What CALL c, which is there, is answered by a thing in a state. */
        static int reply(History h, int c, long state) {
            switch (h.kind) {
                case CELL: return cellReply(h.act[c], (int) state, h.a[c]);
                case COUNTER: return h.act[c] == READ ? (int) state : (int) state + h.a[c];
                case QUEUE:
                case STACK: return h.act[c] == PUT ? lengthOf(state) + 1 : taken(h, state);
                case SET: return setReply(h.act[c], (state >> h.a[c] & 1) != 0);
                case MAP: return cellReply(h.act[c], valueAt(h, state, h.a[c]), h.b[c] >> 16);
                case MACHINE: return h.table == null ? 0 : h.table.answerIn(state, h.act[c]);
                default: return 0;
            }
        }

        /** What a thing in a state becomes by CALL c, which is there. */
        static long after(History h, int c, long state) {
            switch (h.kind) {
                case CELL: return cellAfter(h, c, state);
                case COUNTER: return h.act[c] == READ ? state : (int) state + h.a[c];
                case QUEUE: return h.act[c] == PUT ? putBehind(c, state) : state >>> WIDTH;
                case STACK: return h.act[c] == PUT ? state << WIDTH | c + 1 : state >>> WIDTH;
                case SET: return setAfter(h.act[c], 1L << h.a[c], state);
                case MAP: return mapAfter(h, c, state);
                case MACHINE: return h.table == null ? 0 : h.table.nextIn(state, h.act[c]);
                default: return 0;
            }
        }

        private static int cellReply(int act, int value, int expected) {
            if (act == READ) {
                return value;
            }
            return act != WRITE && value == expected ? 1 : 0;
        }

        private static long cellAfter(History h, int c, long state) {
            if (h.act[c] == READ) {
                return state;
            }
            if (h.act[c] == WRITE) {
                return h.a[c];
            }
            return state == h.a[c] ? h.b[c] : state;
        }

        private static int lengthOf(long state) {
            int bits = LONG_BITS - Long.numberOfLeadingZeros(state);
            return (bits + WIDTH - 1) / WIDTH;
        }

        private static int taken(History h, long state) {
            int putter = (int) (state & LOWEST) - 1;
            return h.hasCall(putter) ? h.a[putter] : -1;
        }

        private static long putBehind(int c, long state) {
            return state | (c + 1L) << lengthOf(state) * WIDTH;
        }

        private static int setReply(int act, boolean isIn) {
            return isIn != (act == ADD) ? 1 : 0;
        }

        private static long setAfter(int act, long member, long state) {
            if (act == ADD) {
                return state | member;
            }
            return act == DROP ? state & ~member : state;
        }

        private static int valueAt(History h, long state, int key) {
            int writer = (int) (state >> key * WIDTH & LOWEST) - 1;
            if (!h.hasCall(writer)) {
                return 0;
            }
            return h.act[writer] == WRITE ? h.b[writer] : (short) h.b[writer];
        }

        private static long mapAfter(History h, int c, long state) {
            boolean isSwapped = valueAt(h, state, h.a[c]) == h.b[c] >> 16;
            if (h.act[c] == READ || h.act[c] != WRITE && !isSwapped) {
                return state;
            }
            int shift = h.a[c] * WIDTH;
            return state & ~((long) LOWEST << shift) | (c + 1L) << shift;
        }
    }

    /** Answers, each once, rising. */
    private static final class Answers {
        /**
         * Most are told by a COUNTER, whose value hangs only on which CALLS came: those of the
         * CALLER itself, and of three others, with 9 CALLS, how far each has come: 4 * 4 * 4.
         */
        private static final int MOST = 64;

        final int[] values = new int[MOST];
        int count;

        void add(int v) {
            int place = 0;
            while (place < count && values[place] < v) {
                place++;
            }
            if (count >= MOST || place < count && values[place] == v) {
                return;
            }
            for (int i = count; i > place; i--) {
                values[i] = values[i - 1];
            }
            values[place] = v;
            count++;
        }
    }

    /**
     * Numbers by keys. It may forget, as two keys may share a place, so it has no end of room; it
     * saves a search from walking the same ground for each order of the same CALLS.
     */
    private static final class Memo {
        private static final int PLACE_BITS = 10;
        private static final long SPREAD = 0x9E3779B97F4A7C15L;
        static final long UNKNOWN = -1;

        private final long[] keys = new long[1 << PLACE_BITS];
        private final long[] values = new long[1 << PLACE_BITS];
        private final int[] ages = new int[1 << PLACE_BITS];
        private int age;

        /** What an earlier age has left counts no more: that is quicker than wiping it. */
        void forget() {
            age++;
        }

        private static int placeOf(long key) {
            return (int) (key * SPREAD >>> LONG_BITS - PLACE_BITS);
        }

        long valueOf(long key) {
            int place = placeOf(key);
            return ages[place] == age && keys[place] == key ? values[place] : UNKNOWN;
        }

        void put(long key, long value) {
            int place = placeOf(key);
            ages[place] = age;
            keys[place] = key;
            values[place] = value;
        }
    }

    /** Looks for the ORDERS of a PART of a HISTORY by a RULE, CALL by CALL. */
    private static final class Search {
        private History history = new History(Model.CELL, null);
        private int part;
        /** The CALLS without which no row is an ORDER. */
        private int due;
        private final int[] aheadOf = new int[MOST_CALLS];
        private boolean oneIsEnough;
        private final Memo memo = new Memo();

        boolean takes(History h, int rule, int ofPart) {
            open(h, rule, ofPart, true);
            return waysFrom(0, 0, 0) > 0;
        }

        long count(History h, int rule) {
            open(h, rule, h.allCalls(), false);
            return waysFrom(0, 0, 0);
        }

        int firstAt(History h, int rule, int i) {
            open(h, rule, h.allCalls(), true);
            int placed = 0;
            long state = 0;
            for (int place = 0; place < MOST_CALLS && !isWhole(placed); place++) {
                int c = firstThatLeadsOn(place, placed, state);
                if (c == NONE || place == i) {
                    return c;
                }
                state = Model.after(history, c, state);
                placed |= 1 << c;
            }
            return NONE;
        }

        int leastPart(History h, int rule) {
            int left = h.allCalls();
            if (takes(h, rule, left)) {
                return 0;
            }
            for (int round = 0; round < MOST_CALLS; round++) {
                int before = left;
                for (int c = 0; c < h.calls; c++) {
                    int fewer = left & ~(1 << c);
                    if (fewer != left && !takes(h, rule, fewer)) {
                        left = fewer;
                    }
                }
                if (left == before) {
                    break;
                }
            }
            return left;
        }

        void collect(History h, int rule, int target, Answers answers) {
            open(h, rule, h.allCalls(), true);
            answers.count = 0;
            collectFrom(0, 0, 0, target, answers);
        }

        int firstFault(History h, int rule, int[] row, int length) {
            open(h, rule, h.allCalls(), true);
            int placed = 0;
            long state = 0;
            for (int place = 0; place < length && place < row.length; place++) {
                int c = row[place];
                if (!fits(c, placed, state)) {
                    return place;
                }
                state = Model.after(history, c, state);
                placed |= 1 << c;
            }
            return isWhole(placed) ? IS_AN_ORDER : length;
        }

        private void open(History h, int rule, int ofPart, boolean one) {
            history = h;
            part = ofPart;
            due = ofPart & h.endedCalls();
            oneIsEnough = one;
            memo.forget();
            int quiet = rule == QUIET ? h.quietTicks(ofPart) : 0;
            for (int y = 0; y < h.calls; y++) {
                aheadOf[y] = 0;
                for (int x = 0; x < y; x++) {
                    if (holds(ofPart, x) && h.isAhead(rule, quiet, x, y)) {
                        aheadOf[y] |= 1 << x;
                    }
                }
            }
        }

        private boolean isWhole(int placed) {
            return (due & ~placed) == 0;
        }

        private boolean fits(int c, int placed, long state) {
            if (!history.hasCall(c) || !holds(part & ~placed, c) || (aheadOf[c] & ~placed) != 0) {
                return false;
            }
            return history.isOpen(c) || Model.reply(history, c, state) == history.value[c];
        }

        private static long keyOf(int placed, long state) {
            return state << MOST_CALLS | placed;
        }

        /** In how many ways a row can go on and be an ORDER; just whether, where one is enough. */
        private long waysFrom(int depth, int placed, long state) {
            if (depth > MOST_CALLS) {
                return 0;
            }
            long key = keyOf(placed, state);
            long known = memo.valueOf(key);
            if (known != Memo.UNKNOWN) {
                return known;
            }
            long ways = isWhole(placed) ? 1 : 0;
            for (int c = 0; c < history.calls && !(oneIsEnough && ways > 0); c++) {
                if (fits(c, placed, state)) {
                    ways += waysFrom(depth + 1, placed | 1 << c, Model.after(history, c, state));
                }
            }
            memo.put(key, ways);
            return ways;
        }

        private int firstThatLeadsOn(int depth, int placed, long state) {
            for (int c = 0; c < history.calls; c++) {
                if (fits(c, placed, state)
                        && waysFrom(depth + 1, placed | 1 << c, Model.after(history, c, state)) > 0) {
                    return c;
                }
            }
            return NONE;
        }

        /** Rows here lack the target, rows of waysFrom() have it: so both can share the memo. */
        private void collectFrom(int depth, int placed, long state, int target, Answers answers) {
            long key = keyOf(placed, state);
            if (depth > MOST_CALLS || memo.valueOf(key) != Memo.UNKNOWN) {
                return;
            }
            memo.put(key, 0);
            for (int c = 0; c < history.calls; c++) {
                if (fits(c, placed, state)) {
                    int with = placed | 1 << c;
                    long after = Model.after(history, c, state);
                    if (c != target) {
                        collectFrom(depth + 1, with, after, target, answers);
                    } else if (waysFrom(depth + 1, with, after) > 0) {
                        answers.add(Model.reply(history, c, state));
                    }
                }
            }
        }
    }
}
