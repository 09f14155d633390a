/** Each promise of the document by its number: ordinary inputs, edges, wrong inputs. */
public final class PromisesTest {
    private static final int NONE = -1, BAD = -2, STATE = -3, FULL = -4;
    private static final int CELL = 0, COUNTER = 1, QUEUE = 2, STACK = 3, SET = 4, MAP = 5, MACHINE = 6;
    private static final int STRICT = 0, QUIET = 1, BY_CALLER = 2;
    private static final int LOW = Integer.MIN_VALUE, HIGH = Integer.MAX_VALUE;

    private static final Due DUE = new Due();

    public static void main(String[] args) {
        newObject();
        machine();
        row();
        machineTable();
        history();
        copy();
        begin();
        beginEdges();
        answer();
        alter();
        statusAndAnswered();
        call();
        about();
        ahead();
        aheadQuiet();
        judge();
        first();
        orders();
        least();
        leastGoesRoundAgain();
        part();
        fills();
        fill();
        apart();
        rules();
        say();
        check();
        checkPlaces();
        models();
        DUE.end();
    }

    private static HistoryCourt with(int kind) {
        HistoryCourt x = new HistoryCourt();
        x.history(kind, 0);
        return x;
    }

    /** A call that is answered at once: its number. */
    private static int done(HistoryCourt x, int h, int caller, int act, int a, int b, int v) {
        int c = x.begin(h, caller, act, a, b);
        x.answer(h, c, v);
        return c;
    }

    private static void newObject() {
        HistoryCourt x = new HistoryCourt();
        DUE.is("1: no HISTORIES", x.about(0, 0), NONE);
        DUE.is("1: no MACHINES", x.row(0, 0, 0, 0, 0), NONE);
        DUE.is("1: status", x.status(), 0);
        DUE.is("1: no part", x.part(0), NONE);
        DUE.is("1: no fill", x.fill(0), 0);
        DUE.is("1: no fill's status", x.status(), NONE);
        x.history(CELL, 0);
        DUE.is("1: an empty ROW is an ORDER of no CALLS", x.check(0, STRICT), 100);
        DUE.is("1: the ROW was empty", x.say(0), 1);
        HistoryCourt other = new HistoryCourt();
        DUE.is("1: objects share nothing", other.about(0, 0), NONE);
    }

    private static void machine() {
        HistoryCourt x = new HistoryCourt();
        for (int m = 0; m < 4; m++) {
            DUE.is("2: machine", x.machine(), m);
        }
        DUE.is("2: a fifth", x.machine(), FULL);
        DUE.is("2: still there", x.row(3, 0, 0, 1, 1), 0);
        DUE.is("2: not there", x.row(4, 0, 0, 1, 1), NONE);
    }

    private static void row() {
        HistoryCourt x = new HistoryCourt();
        x.machine();
        x.machine();
        DUE.is("3: first state and ACT", x.row(0, 0, 0, LOW, 7), 0);
        DUE.is("3: last state and ACT", x.row(0, 7, 3, HIGH, 0), 0);
        for (int wrong : new int[] {-1, 8, LOW, HIGH}) {
            DUE.is("3: state " + wrong, x.row(0, wrong, 0, 0, 0), BAD);
            DUE.is("3: next " + wrong, x.row(0, 0, 0, 0, wrong), BAD);
        }
        for (int wrong : new int[] {-1, 4, LOW, HIGH}) {
            DUE.is("3: ACT " + wrong, x.row(0, 0, wrong, 0, 0), BAD);
        }
        for (int wrong : new int[] {-1, 2, LOW, HIGH}) {
            DUE.is("3: MACHINE " + wrong + " ahead of BAD", x.row(wrong, 8, 4, 0, 8), NONE);
        }
        x.history(MACHINE, 0);
        DUE.is("3: a HISTORY is of it", x.row(0, 0, 0, 1, 1), STATE);
        DUE.is("3: BAD ahead of STATE", x.row(0, 8, 0, 1, 1), BAD);
        DUE.is("3: the other MACHINE has none", x.row(1, 0, 0, 1, 1), 0);
        x.history(CELL, 0);
        DUE.is("3: a CELL is of no MACHINE", x.row(1, 0, 0, 2, 2), 0);
    }

    private static void machineTable() {
        HistoryCourt x = new HistoryCourt();
        x.machine();
        x.machine();
        x.row(1, 0, 3, LOW, 7);
        x.row(1, 7, 3, HIGH, 0);
        x.row(1, 7, 0, 5, 1);
        x.row(1, 7, 0, 6, 7);
        x.history(MACHINE, 1);
        done(x, 0, 0, 3, 0, 0, LOW);
        done(x, 0, 0, 0, 9, 9, 6);
        done(x, 0, 0, 3, 0, 0, HIGH);
        done(x, 0, 0, 1, 0, 0, 0);
        DUE.is("3: by its table, told again and not told", x.judge(0, STRICT), 1);
        x.history(MACHINE, 0);
        done(x, 1, 0, 3, 0, 0, 0);
        DUE.is("3: MACHINE 0 is not told", x.judge(1, STRICT), 1);
    }

    private static void history() {
        HistoryCourt x = new HistoryCourt();
        DUE.is("4: kind -1", x.history(-1, 0), NONE);
        DUE.is("4: kind 7", x.history(7, 0), NONE);
        DUE.is("4: kind, NONE ahead of BAD", x.history(LOW, 1), NONE);
        DUE.is("4: no MACHINE yet", x.history(MACHINE, 0), NONE);
        x.machine();
        DUE.is("4: no such MACHINE", x.history(MACHINE, 1), NONE);
        DUE.is("4: no such MACHINE", x.history(MACHINE, -1), NONE);
        for (int kind = 0; kind < 6; kind++) {
            DUE.is("4: machine is not 0", x.history(kind, 1), BAD);
            DUE.is("4: machine is not 0", x.history(kind, -1), BAD);
            DUE.is("4: history", x.history(kind, 0), kind);
        }
        for (int h = 6; h < 12; h++) {
            DUE.is("4: history of a MACHINE", x.history(MACHINE, 0), h);
        }
        DUE.is("4: a thirteenth", x.history(CELL, 0), FULL);
        DUE.is("4: BAD ahead of FULL", x.history(CELL, 1), BAD);
        DUE.is("4: NONE ahead of FULL", x.history(MACHINE, 1), NONE);
        DUE.is("4: the last one", x.about(11, 0), MACHINE);
        DUE.is("4: none behind it", x.about(12, 0), NONE);
    }

    private static void copy() {
        HistoryCourt x = with(STACK);
        done(x, 0, 2, 0, 7, 8, 1);
        x.begin(0, 3, 1, 4, 5);
        DUE.is("5: copy", x.copy(0), 1);
        DUE.is("5: kind", x.about(1, 0), STACK);
        DUE.is("5: CALLS", x.about(1, 1), 2);
        DUE.is("5: OPEN ones", x.about(1, 2), 1);
        DUE.is("5: TICKS", x.about(1, 3), 3);
        DUE.is("5: CALLER", x.call(1, 1, 0), 3);
        DUE.is("5: ACT", x.call(1, 1, 1), 1);
        DUE.is("5: BEGUN", x.call(1, 1, 2), 3);
        DUE.is("5: ANSWERED", x.call(1, 0, 3), 2);
        DUE.is("5: answer", x.answered(1, 0), 1);
        DUE.is("5: fills, by a", x.fills(1, STRICT, 1), 1);
        DUE.is("5: fill", x.fill(0), 7);
        x.alter(1, 0, 9);
        x.answer(1, 1, 7);
        DUE.is("5: the other one's answer stays", x.answered(0, 0), 1);
        DUE.is("5: the other one's CALL stays OPEN", x.about(0, 2), 1);
        DUE.is("5: NONE", x.copy(2), NONE);
        DUE.is("5: NONE", x.copy(-1), NONE);
        for (int h = 2; h < 12; h++) {
            DUE.is("5: copy of a copy", x.copy(h - 1), h);
        }
        DUE.is("5: FULL", x.copy(0), FULL);
        DUE.is("5: NONE ahead of FULL", x.copy(12), NONE);
        copyOfMachine();
        copyOfSwap();
    }

    private static void copyOfSwap() {
        HistoryCourt x = with(CELL);
        done(x, 0, 0, 2, 0, 6, 1);
        x.copy(0);
        done(x, 1, 0, 0, 0, 0, 6);
        DUE.is("5: with the same b", x.judge(1, STRICT), 1);
        DUE.is("5: not in the other one", x.about(0, 1), 1);
    }

    private static void copyOfMachine() {
        HistoryCourt x = new HistoryCourt();
        x.machine();
        x.row(0, 0, 0, 5, 1);
        x.history(MACHINE, 0);
        x.copy(0);
        done(x, 1, 0, 0, 0, 0, 5);
        DUE.is("5: of the same MACHINE", x.judge(1, STRICT), 1);
        done(x, 1, 0, 0, 0, 0, 5);
        DUE.is("5: of the same MACHINE", x.judge(1, STRICT), 0);
    }

    private static void begin() {
        HistoryCourt x = with(CELL);
        DUE.is("6: begin", x.begin(0, 0, 1, 5, 0), 0);
        DUE.is("6: another CALLER", x.begin(0, 3, 2, LOW, HIGH), 1);
        DUE.is("6: it has an OPEN one", x.begin(0, 0, 0, 0, 0), STATE);
        DUE.is("6: NONE", x.begin(1, 0, 0, 0, 0), NONE);
        DUE.is("6: NONE ahead of BAD", x.begin(-1, 9, 9, 9, 9), NONE);
        DUE.is("6: CALLER 4", x.begin(0, 4, 0, 0, 0), BAD);
        DUE.is("6: CALLER -1", x.begin(0, -1, 0, 0, 0), BAD);
        DUE.is("6: BAD ahead of STATE", x.begin(0, 0, 3, 0, 0), BAD);
        DUE.is("6: refused ones are no TICKS", x.about(0, 3), 2);
        x.answer(0, 0, 0);
        DUE.is("6: OPEN no more", x.begin(0, 0, 0, 0, 0), 2);
        for (int c = 3; c < 10; c++) {
            x.answer(0, c - 1, 0);
            DUE.is("6: begin", x.begin(0, 0, 0, 0, 0), c);
        }
        DUE.is("6: an eleventh", x.begin(0, 1, 0, 0, 0), FULL);
        DUE.is("6: STATE ahead of FULL", x.begin(0, 0, 0, 0, 0), STATE);
        DUE.is("6: BAD ahead of FULL", x.begin(0, 1, -1, 0, 0), BAD);
    }

    private static void beginEdges() {
        int[] acts = {3, 2, 2, 2, 3, 3, 4};
        HistoryCourt x = new HistoryCourt();
        x.machine();
        for (int kind = 0; kind < 7; kind++) {
            x.history(kind, 0);
            DUE.is("6: ACT -1 of kind " + kind, x.begin(kind, 0, -1, 0, 0), BAD);
            DUE.is("6: one ACT too high of kind " + kind, x.begin(kind, 0, acts[kind], 0, 0), BAD);
            DUE.is("6: last ACT of kind " + kind, x.begin(kind, 0, acts[kind] - 1, 0, 0), 0);
            int wantFar = kind == SET || kind == MAP ? BAD : 1;
            DUE.is("6: a far a of kind " + kind, x.begin(kind, 1, 0, 16, HIGH), wantFar);
            DUE.is("6: a low a of kind " + kind, x.begin(kind, 2, 0, -1, LOW), wantFar == BAD ? BAD : 2);
        }
        DUE.is("6: SET of 0 .. 15", x.begin(SET, 1, 2, 15, 0), 1);
        DUE.is("6: KEY 3", x.begin(MAP, 1, 0, 3, 0), 1);
        for (int act = 0; act < 3; act++) {
            DUE.is("6: KEY 4", x.begin(MAP, 2, act, 4, 0), BAD);
            DUE.is("6: a 16 of a SET", x.begin(SET, 2, act, 16, 0), BAD);
        }
    }

    private static void answer() {
        HistoryCourt x = with(COUNTER);
        x.begin(0, 0, 1, 5, 0);
        x.begin(0, 1, 1, 5, 0);
        DUE.is("7: the TICK", x.answer(0, 1, LOW), 3);
        DUE.is("7: the answer", x.answered(0, 1), LOW);
        DUE.is("7: ANSWERED already", x.answer(0, 1, 1), STATE);
        DUE.is("7: nothing is changed", x.answered(0, 1), LOW);
        DUE.is("7: no such CALL", x.answer(0, 2, 1), NONE);
        DUE.is("7: no such CALL", x.answer(0, -1, 1), NONE);
        DUE.is("7: no such HISTORY", x.answer(1, 0, 1), NONE);
        DUE.is("7: the next TICK", x.answer(0, 0, 0), 4);
    }

    private static void alter() {
        HistoryCourt x = with(COUNTER);
        done(x, 0, 0, 0, 0, 0, 7);
        x.begin(0, 1, 0, 0, 0);
        DUE.is("8: what it was", x.alter(0, 0, -3), 7);
        DUE.is("8: status", x.status(), 0);
        DUE.is("8: what it was", x.alter(0, 0, 0), -3);
        DUE.is("8: it counts", x.judge(0, STRICT), 1);
        DUE.is("8: OPEN", x.alter(0, 1, 4), 0);
        DUE.is("8: OPEN, status", x.status(), STATE);
        DUE.is("8: no such CALL", x.alter(0, 2, 4), 0);
        DUE.is("8: no such CALL, status", x.status(), NONE);
        x.alter(0, 0, 5);
        DUE.is("8: status again", x.status(), 0);
        x.alter(1, 0, 4);
        DUE.is("8: no such HISTORY", x.status(), NONE);
        x.alter(0, -1, 4);
        DUE.is("8: no such CALL", x.status(), NONE);
        DUE.is("8: no TICK", x.about(0, 3), 3);
        DUE.is("8: still OPEN", x.call(0, 1, 3), 0);
    }

    private static void statusAndAnswered() {
        HistoryCourt x = with(CELL);
        DUE.is("9: at first", x.status(), 0);
        DUE.is("10: no such CALL", x.answered(0, 0), 0);
        DUE.is("9: NONE", x.status(), NONE);
        DUE.is("9: it stays", x.status(), NONE);
        x.begin(0, 0, 0, 0, 0);
        DUE.is("9: others leave it", x.status(), NONE);
        DUE.is("10: OPEN", x.answered(0, 0), 0);
        DUE.is("9: STATE", x.status(), STATE);
        x.judge(7, 0);
        x.begin(7, 0, 0, 0, 0);
        x.answer(0, 0, -77);
        DUE.is("9: others leave it", x.status(), STATE);
        DUE.is("10: the answer", x.answered(0, 0), -77);
        DUE.is("9: 0", x.status(), 0);
        x.answered(-1, 0);
        DUE.is("10: no such HISTORY", x.status(), NONE);
        x.answered(0, 0);
        x.answered(0, -1);
        DUE.is("10: no such CALL", x.status(), NONE);
        x.alter(0, 0, 3);
        DUE.is("10: altered", x.answered(0, 0), 3);
    }

    private static void call() {
        HistoryCourt x = with(SET);
        x.begin(0, 3, 2, 1, 0);
        x.begin(0, 1, 1, 1, 0);
        x.answer(0, 1, 6);
        int[] wantOpen = {3, 2, 1, 0};
        int[] wantAnswered = {1, 1, 2, 3};
        for (int what = 0; what < 4; what++) {
            DUE.is("11: of an OPEN one, " + what, x.call(0, 0, what), wantOpen[what]);
            DUE.is("11: of an ANSWERED one, " + what, x.call(0, 1, what), wantAnswered[what]);
        }
        DUE.is("11: what 4", x.call(0, 0, 4), NONE);
        DUE.is("11: what -1", x.call(0, 0, -1), NONE);
        DUE.is("11: no such CALL", x.call(0, 2, 0), NONE);
        DUE.is("11: no such CALL", x.call(0, -1, 0), NONE);
        DUE.is("11: no such HISTORY", x.call(1, 0, 0), NONE);
    }

    private static void about() {
        HistoryCourt x = with(QUEUE);
        int[] wantEmpty = {QUEUE, 0, 0, 0};
        for (int what = 0; what < 4; what++) {
            DUE.is("12: of an empty one, " + what, x.about(0, what), wantEmpty[what]);
        }
        x.begin(0, 0, 0, 1, 0);
        x.begin(0, 1, 0, 1, 0);
        x.begin(0, 2, 0, 1, 0);
        x.answer(0, 1, 1);
        int[] want = {QUEUE, 3, 2, 4};
        for (int what = 0; what < 4; what++) {
            DUE.is("12: " + what, x.about(0, what), want[what]);
        }
        DUE.is("12: what 4", x.about(0, 4), NONE);
        DUE.is("12: what -1", x.about(0, -1), NONE);
        DUE.is("12: no such HISTORY", x.about(1, 0), NONE);
        DUE.is("12: no such HISTORY", x.about(-1, 0), NONE);
    }

    private static void ahead() {
        HistoryCourt x = with(CELL);
        x.begin(0, 0, 0, 0, 0);
        x.begin(0, 1, 0, 0, 0);
        x.answer(0, 0, 0);
        x.begin(0, 0, 0, 0, 0);
        x.begin(0, 2, 0, 0, 0);
        int[][] want = {{1, 1, 1}, {0, 0, 0}, {1, 0, 0}};
        int[][] pairs = {{0, 2}, {0, 1}, {0, 3}};
        for (int p = 0; p < 3; p++) {
            for (int rule = 0; rule < 3; rule++) {
                DUE.is("13: " + pairs[p][0] + " of " + pairs[p][1] + " by " + rule,
                    x.ahead(0, rule, pairs[p][0], pairs[p][1]), want[p][rule]);
            }
        }
        DUE.is("13: not the other way", x.ahead(0, STRICT, 2, 0), 0);
        DUE.is("13: not of itself", x.ahead(0, STRICT, 0, 0), 0);
        DUE.is("13: an OPEN one", x.ahead(0, STRICT, 1, 2), 0);
        for (int wrong : new int[] {-1, 4, LOW, HIGH}) {
            DUE.is("13: x " + wrong, x.ahead(0, STRICT, wrong, 0), NONE);
            DUE.is("13: y " + wrong, x.ahead(0, STRICT, 0, wrong), NONE);
            DUE.is("13: HISTORY " + wrong, x.ahead(wrong, STRICT, 0, 1), NONE);
            DUE.is("13: RULE " + wrong, x.ahead(0, wrong, 0, 1), NONE);
        }
        DUE.is("13: RULE 3", x.ahead(0, 3, 0, 1), NONE);
    }

    private static void aheadQuiet() {
        HistoryCourt x = with(CELL);
        done(x, 0, 0, 0, 0, 0, 0);
        done(x, 0, 1, 0, 0, 0, 0);
        DUE.is("13: quiet at the TICK of the answer", x.ahead(0, QUIET, 0, 1), 1);
        x.begin(0, 2, 0, 0, 0);
        done(x, 0, 3, 0, 0, 0, 0);
        x.begin(0, 0, 0, 0, 0);
        DUE.is("13: 2 is under way", x.ahead(0, QUIET, 3, 4), 0);
        DUE.is("13: quiet ahead of 2", x.ahead(0, QUIET, 1, 4), 1);
        DUE.is("13: quiet ahead of 2", x.ahead(0, QUIET, 0, 2), 1);
        DUE.is("13: STRICT", x.ahead(0, STRICT, 3, 4), 1);
        x.answer(0, 2, 0);
        x.begin(0, 1, 0, 0, 0);
        DUE.is("13: 4 is under way", x.ahead(0, QUIET, 2, 5), 0);
        x.answer(0, 4, 0);
        x.answer(0, 5, 0);
        x.begin(0, 3, 0, 0, 0);
        DUE.is("13: quiet again", x.ahead(0, QUIET, 2, 6), 1);
        DUE.is("13: quiet again", x.ahead(0, QUIET, 5, 6), 1);
    }

    /** A WRITE, then a READ of another CALLER that does not see it; BY CALLER it may. */
    private static HistoryCourt staleRead() {
        HistoryCourt x = with(CELL);
        done(x, 0, 0, 1, 5, 0, 0);
        done(x, 0, 1, 0, 0, 0, 0);
        return x;
    }

    private static void judge() {
        HistoryCourt x = staleRead();
        DUE.is("14: STRICT", x.judge(0, STRICT), 0);
        DUE.is("14: QUIET", x.judge(0, QUIET), 0);
        DUE.is("14: BY CALLER", x.judge(0, BY_CALLER), 1);
        x.history(CELL, 0);
        DUE.is("14: no CALLS", x.judge(1, STRICT), 1);
        x.begin(1, 0, 1, 4, 0);
        DUE.is("14: only an OPEN one", x.judge(1, STRICT), 1);
        done(x, 1, 1, 0, 0, 0, 0);
        done(x, 1, 1, 0, 0, 0, 4);
        DUE.is("14: an OPEN one may be seen late", x.judge(1, STRICT), 1);
        done(x, 1, 1, 0, 0, 0, 0);
        DUE.is("14: but it goes not away", x.judge(1, BY_CALLER), 0);
        DUE.is("14: RULE 3", x.judge(0, 3), NONE);
        DUE.is("14: RULE -1", x.judge(0, -1), NONE);
        DUE.is("14: HISTORY 2", x.judge(2, 0), NONE);
        DUE.is("14: HISTORY -1", x.judge(-1, 0), NONE);
        HistoryCourt y = with(CELL);
        y.begin(0, 2, 0, 0, 0);
        done(y, 0, 0, 1, 5, 0, 0);
        done(y, 0, 1, 0, 0, 0, 0);
        DUE.is("14: STRICT, never quiet", y.judge(0, STRICT), 0);
        DUE.is("14: QUIET, never quiet", y.judge(0, QUIET), 1);
    }

    private static void first() {
        HistoryCourt x = staleRead();
        DUE.is("15: the READ is first", x.first(0, BY_CALLER, 0), 1);
        DUE.is("15: then the WRITE", x.first(0, BY_CALLER, 1), 0);
        DUE.is("15: no more", x.first(0, BY_CALLER, 2), NONE);
        DUE.is("15: not TAKEN", x.first(0, STRICT, 0), NONE);
        DUE.is("15: i -1", x.first(0, BY_CALLER, -1), NONE);
        DUE.is("15: a far i", x.first(0, BY_CALLER, HIGH), NONE);
        DUE.is("15: RULE", x.first(0, 3, 0), NONE);
        DUE.is("15: HISTORY", x.first(1, 0, 0), NONE);
        x.history(QUEUE, 0);
        x.begin(1, 0, 0, 5, 0);
        DUE.is("15: no CALL is ahead of some CALL", x.first(1, STRICT, 0), NONE);
        x.begin(1, 1, 0, 6, 0);
        x.begin(1, 2, 1, 0, 0);
        x.answer(1, 2, 6);
        DUE.is("15: the needed OPEN one", x.first(1, STRICT, 0), 1);
        DUE.is("15: an OPEN one, as it is lesser", x.first(1, STRICT, 1), 0);
        DUE.is("15: the ANSWERED one", x.first(1, STRICT, 2), 2);
        DUE.is("15: no OPEN one behind", x.first(1, STRICT, 3), NONE);
    }

    private static void orders() {
        HistoryCourt x = with(CELL);
        DUE.is("16: the row without CALLS", x.orders(0, STRICT), 1);
        x.begin(0, 0, 1, 1, 0);
        DUE.is("16: with it or without", x.orders(0, STRICT), 2);
        x.begin(0, 1, 1, 2, 0);
        DUE.is("16: two OPEN ones", x.orders(0, STRICT), 5);
        x.begin(0, 2, 1, 2, 0);
        x.begin(0, 3, 1, 2, 0);
        DUE.is("16: four OPEN ones", x.orders(0, STRICT), 65);
        DUE.is("16: NONE", x.orders(0, 3), NONE);
        DUE.is("16: NONE", x.orders(1, 0), NONE);
        HistoryCourt y = with(CELL);
        int[] callers = {0, 1, 2, 3, 0, 1, 2, 3, 0, 1};
        for (int c = 0; c < 10; c++) {
            done(y, 0, callers[c], 1, c, 0, 0);
        }
        DUE.is("16: STRICT, all in a row", y.orders(0, STRICT), 1);
        DUE.is("16: QUIET, all in a row", y.orders(0, QUIET), 1);
        DUE.is("16: BY CALLER: 10! / 3! 3! 2! 2!", y.orders(0, BY_CALLER), 25200);
        HistoryCourt z = staleRead();
        DUE.is("16: not TAKEN", z.orders(0, STRICT), 0);
    }

    private static void least() {
        HistoryCourt x = staleRead();
        DUE.is("17: both", x.least(0, STRICT), 2);
        DUE.is("18: 0", x.part(0), 0);
        DUE.is("18: 1", x.part(1), 1);
        DUE.is("17: TAKEN", x.least(0, BY_CALLER), 0);
        DUE.is("18: TAKEN", x.part(0), NONE);
        DUE.is("17: RULE", x.least(0, 3), NONE);
        DUE.is("17: HISTORY", x.least(1, 0), NONE);
        HistoryCourt y = with(CELL);
        done(y, 0, 0, 0, 0, 0, 9);
        done(y, 0, 0, 0, 0, 0, 8);
        DUE.is("17: the lesser one is left out", y.least(0, STRICT), 1);
        DUE.is("18: the other one is left", y.part(0), 1);
        HistoryCourt z = with(CELL);
        z.begin(0, 2, 0, 0, 0);
        done(z, 0, 0, 1, 5, 0, 0);
        done(z, 0, 1, 0, 0, 0, 0);
        z.answer(0, 0, 7);
        DUE.is("17: QUIET, by the CALLS of the PART alone", z.least(0, QUIET), 2);
        DUE.is("18: 0", z.part(0), 1);
        DUE.is("18: 1", z.part(1), 2);
    }

    /** Without CALL 0 what is left is TAKEN till CALL 1 is left out: so CALL 0 goes in a second round. */
    private static void leastGoesRoundAgain() {
        HistoryCourt x = with(COUNTER);
        done(x, 0, 0, 1, 5, 0, 5);
        done(x, 0, 0, 1, 1, 0, 1);
        done(x, 0, 0, 0, 0, 0, 1);
        DUE.is("17: two rounds", x.least(0, STRICT), 1);
        DUE.is("18: two rounds", x.part(0), 2);
    }

    private static void part() {
        HistoryCourt x = staleRead();
        DUE.is("18: none told yet", x.part(0), NONE);
        x.least(0, STRICT);
        x.least(0, 3);
        x.least(1, 0);
        DUE.is("18: refused ones change nothing", x.part(1), 1);
        DUE.is("18: -1", x.part(-1), NONE);
        DUE.is("18: 2", x.part(2), NONE);
        DUE.is("18: far", x.part(HIGH), NONE);
        x.alter(0, 1, 5);
        DUE.is("18: told latest, though it is TAKEN now", x.part(0), 0);
    }

    private static void fills() {
        HistoryCourt x = with(COUNTER);
        x.begin(0, 0, 1, HIGH, 0);
        x.begin(0, 1, 1, 1, 0);
        x.begin(0, 2, 0, 0, 0);
        DUE.is("19: 0, HIGH, 1, LOW", x.fills(0, STRICT, 2), 4);
        int[] want = {LOW, 0, 1, HIGH};
        for (int i = 0; i < 4; i++) {
            DUE.is("20: rising", x.fill(i), want[i]);
            DUE.is("20: status", x.status(), 0);
        }
        x.answer(0, 2, 1);
        DUE.is("19: 0 was ahead of none, or not at all", x.fills(0, STRICT, 0), 1);
        DUE.is("20: wraps", x.fill(0), LOW);
        DUE.is("19: not OPEN", x.fills(0, STRICT, 2), STATE);
        DUE.is("19: no such CALL", x.fills(0, STRICT, 3), NONE);
        DUE.is("19: no such CALL", x.fills(0, STRICT, -1), NONE);
        DUE.is("19: no such RULE", x.fills(0, 3, 0), NONE);
        DUE.is("19: NONE ahead of STATE", x.fills(0, 3, 2), NONE);
        DUE.is("19: no such HISTORY", x.fills(1, 0, 0), NONE);
        x.alter(0, 2, 77);
        DUE.is("19: not TAKEN", x.fills(0, STRICT, 0), 0);
        manyFills();
    }

    /** Six ADDS by their answers in one row, three OPEN ones behind them: 7 values, and 8 less one. */
    private static void manyFills() {
        HistoryCourt x = with(COUNTER);
        int reader = x.begin(0, 3, 0, 0, 0);
        int sum = 0;
        for (int i = 0; i < 9; i++) {
            int c = x.begin(0, i % 3, 1, -(1 << 2 * i), 0);
            sum -= 1 << 2 * i;
            if (i < 6) {
                x.answer(0, c, sum);
            }
        }
        DUE.is("19: the READ may stand anywhere", x.fills(0, STRICT, reader), 14);
        DUE.is("20: all ADDS", x.fill(0), sum);
        DUE.is("20: none", x.fill(13), 0);
    }

    private static void fill() {
        HistoryCourt x = with(CELL);
        x.begin(0, 0, 0, 0, 0);
        DUE.is("20: none told yet", x.fill(0), 0);
        DUE.is("20: none told yet", x.status(), NONE);
        x.begin(0, 1, 1, -9, 0);
        x.fills(0, STRICT, 0);
        DUE.is("20: rising", x.fill(0), -9);
        DUE.is("20: status", x.status(), 0);
        DUE.is("20: -1", x.fill(-1), 0);
        DUE.is("20: -1", x.status(), NONE);
        DUE.is("20: rising", x.fill(1), 0);
        DUE.is("20: status", x.status(), 0);
        DUE.is("20: far", x.fill(HIGH), 0);
        DUE.is("20: far", x.status(), NONE);
        x.fills(0, 3, 0);
        DUE.is("20: refused ones change nothing", x.fill(0), -9);
    }

    private static void apart() {
        HistoryCourt x = with(MAP);
        done(x, 0, 0, 1, 1, 5, 0);
        done(x, 0, 1, 0, 1, 0, 0);
        done(x, 0, 1, 0, 2, 0, 0);
        DUE.is("21: not TAKEN", x.apart(0, STRICT, 1), 0);
        DUE.is("21: BY CALLER", x.apart(0, BY_CALLER, 1), 1);
        DUE.is("21: another KEY", x.apart(0, STRICT, 2), 1);
        DUE.is("21: no CALLS", x.apart(0, STRICT, 0), 1);
        DUE.is("21: KEY 4", x.apart(0, STRICT, 4), NONE);
        DUE.is("21: KEY -1", x.apart(0, STRICT, -1), NONE);
        DUE.is("21: RULE", x.apart(0, 3, 0), NONE);
        DUE.is("21: HISTORY", x.apart(1, 0, 0), NONE);
        for (int kind = 0; kind < 5; kind++) {
            x.history(kind, 0);
            DUE.is("21: of kind " + kind, x.apart(kind + 1, 0, 0), NONE);
        }
        HistoryCourt y = with(MAP);
        y.begin(0, 2, 1, 3, 7);
        done(y, 0, 0, 1, 1, 5, 0);
        done(y, 0, 1, 0, 1, 0, 0);
        DUE.is("21: QUIET, as a whole", y.judge(0, QUIET), 1);
        DUE.is("21: QUIET, by the CALLS of the PART alone", y.apart(0, QUIET, 1), 0);
        twoKeys();
    }

    /** Each KEY alone is explained BY CALLER, both together are not. */
    private static void twoKeys() {
        HistoryCourt x = with(MAP);
        done(x, 0, 0, 1, 0, 1, 0);
        done(x, 0, 0, 0, 1, 0, 0);
        done(x, 0, 1, 1, 1, 1, 0);
        done(x, 0, 1, 0, 0, 0, 0);
        DUE.is("21: KEY 0", x.apart(0, BY_CALLER, 0), 1);
        DUE.is("21: KEY 1", x.apart(0, BY_CALLER, 1), 1);
        DUE.is("21: both", x.judge(0, BY_CALLER), 0);
    }

    private static void rules() {
        HistoryCourt x = staleRead();
        DUE.is("22: BY CALLER alone", x.rules(0), 4);
        x.alter(0, 1, 5);
        DUE.is("22: all", x.rules(0), 7);
        x.alter(0, 1, 6);
        DUE.is("22: none", x.rules(0), 0);
        DUE.is("22: NONE", x.rules(1), NONE);
        DUE.is("22: NONE", x.rules(-1), NONE);
        HistoryCourt y = with(CELL);
        y.begin(0, 2, 0, 0, 0);
        done(y, 0, 0, 1, 5, 0, 0);
        done(y, 0, 1, 0, 0, 0, 0);
        DUE.is("22: QUIET and BY CALLER", y.rules(0), 6);
    }

    private static void say() {
        HistoryCourt x = with(CELL);
        DUE.is("23: -1", x.say(-1), BAD);
        DUE.is("23: 10", x.say(10), BAD);
        for (int n = 1; n <= 10; n++) {
            DUE.is("23: how many", x.say(10 - n), n);
        }
        DUE.is("23: an eleventh", x.say(0), FULL);
        DUE.is("23: BAD ahead of FULL", x.say(10), BAD);
        DUE.is("23: of no CALL yet", x.check(0, STRICT), 0);
        DUE.is("23: empty again", x.say(0), 1);
    }

    private static int checkRow(HistoryCourt x, int rule, int... row) {
        for (int c : row) {
            x.say(c);
        }
        return x.check(0, rule);
    }

    private static void check() {
        HistoryCourt x = staleRead();
        DUE.is("24: an ORDER", checkRow(x, BY_CALLER, 1, 0), 100);
        DUE.is("24: it is empty then; two are due", checkRow(x, BY_CALLER), 0);
        DUE.is("24: too short", checkRow(x, BY_CALLER, 1), 1);
        x.say(1);
        DUE.is("24: RULE", x.check(0, 3), NONE);
        DUE.is("24: HISTORY", x.check(1, 0), NONE);
        DUE.is("24: not empty then", checkRow(x, BY_CALLER, 0), 100);
        x.history(CELL, 0);
        DUE.is("24: no CALLS", x.check(1, STRICT), 100);
        x.begin(1, 0, 1, 1, 0);
        DUE.is("24: without the OPEN one", x.check(1, STRICT), 100);
        x.say(0);
        DUE.is("24: with the OPEN one", x.check(1, STRICT), 100);
    }

    private static void checkPlaces() {
        HistoryCourt x = staleRead();
        x.begin(0, 2, 1, 0, 0);
        DUE.is("24: there is no CALL 3", checkRow(x, BY_CALLER, 1, 0, 3), 2);
        DUE.is("24: 1 twice", checkRow(x, BY_CALLER, 1, 1, 0), 1);
        DUE.is("24: an OPEN one ahead of those ahead of it", checkRow(x, STRICT, 2, 0, 1), 0);
        DUE.is("24: 0 is AHEAD of 1", checkRow(x, STRICT, 1, 0), 0);
        DUE.is("24: another answer", checkRow(x, STRICT, 0, 1), 1);
        DUE.is("24: another answer, as BY CALLER", checkRow(x, BY_CALLER, 0, 1), 1);
        DUE.is("24: by an OPEN one", checkRow(x, BY_CALLER, 0, 2, 1), 100);
        DUE.is("24: QUIET", checkRow(x, QUIET, 1, 0), 0);
        DUE.is("24: ten", checkRow(x, BY_CALLER, 1, 0, 2, 2, 2, 2, 2, 2, 2, 2), 3);
    }

    /** One CALLER's acts, each with its answer, in a row that has one order: kind; act, a, b, answer. */
    private static void goesSo(String what, int kind, int[][] calls) {
        HistoryCourt x = with(kind);
        for (int[] c : calls) {
            done(x, 0, 0, c[0], c[1], c[2], c[3]);
        }
        DUE.is(what, x.judge(0, STRICT), 1);
        for (int c = 0; c < calls.length; c++) {
            x.alter(0, c, calls[c][3] + 1);
            DUE.is(what + ", another answer of " + c, x.judge(0, STRICT), 0);
            x.alter(0, c, calls[c][3]);
        }
    }

    private static void models() {
        goesSo("CELL", CELL, new int[][] {{0, 9, 9, 0}, {1, -5, 9, 0}, {0, 0, 0, -5}, {2, 4, 3, 0}, {0, 0, 0, -5},
            {2, -5, HIGH, 1}, {0, 0, 0, HIGH}, {2, HIGH, LOW, 1}, {0, 0, 0, LOW}});
        goesSo("COUNTER", COUNTER, new int[][] {{0, 9, 9, 0}, {1, -5, 9, -5}, {0, 0, 0, -5}, {1, LOW, 0, HIGH - 4},
            {1, 5, 0, LOW}, {1, 0, 0, LOW}});
        goesSo("QUEUE", QUEUE, new int[][] {{1, 0, 0, -1}, {0, 7, 0, 1}, {0, -8, 0, 2}, {1, 0, 0, 7}, {0, 9, 0, 2},
            {1, 0, 0, -8}, {1, 0, 0, 9}, {1, 0, 0, -1}, {0, 1, 0, 1}});
        goesSo("STACK", STACK, new int[][] {{1, 0, 0, -1}, {0, 7, 0, 1}, {0, -8, 0, 2}, {1, 0, 0, -8}, {0, 9, 0, 2},
            {1, 0, 0, 9}, {1, 0, 0, 7}, {1, 0, 0, -1}, {0, 1, 0, 1}});
        goesSo("SET", SET, new int[][] {{2, 15, 0, 0}, {0, 15, 0, 1}, {0, 15, 0, 0}, {2, 15, 0, 1}, {2, 0, 0, 0},
            {1, 0, 0, 0}, {1, 15, 0, 1}, {1, 15, 0, 0}, {2, 15, 0, 0}});
        goesSo("MAP", MAP, new int[][] {{0, 3, 9, 0}, {1, 3, HIGH, 0}, {0, 3, 0, HIGH}, {0, 2, 0, 0}, {2, 2, 0xFFFE, 1},
            {0, 2, 0, -2}, {2, 2, 0xFFFE7FFF, 1}, {0, 2, 0, 32767}, {2, 3, 0xFFFF0001, 0}, {0, 3, 0, HIGH}});
        int[][] puts = new int[10][];
        for (int i = 0; i < 10; i++) {
            puts[i] = new int[] {0, i, 0, i + 1};
        }
        goesSo("ten in a QUEUE", QUEUE, puts);
        goesSo("ten in a STACK", STACK, puts);
    }
}
