/** What several tests make: courts with a history, and calls that are answered at once. */
final class Bench {
    static final int NONE = -1, BAD = -2, STATE = -3, FULL = -4;
    static final int CELL = 0, COUNTER = 1, QUEUE = 2, STACK = 3, SET = 4, MAP = 5, MACHINE = 6;
    static final int STRICT = 0, QUIET = 1, BY_CALLER = 2;
    static final int READ = 0, WRITE = 1, SWAP = 2;
    static final int LOW = Integer.MIN_VALUE, HIGH = Integer.MAX_VALUE;

    private Bench() {
    }

    /** A court with HISTORY 0 of a kind; of kind 6 it is of MACHINE 0, of whose table nothing is told. */
    static HistoryCourt with(int kind) {
        HistoryCourt x = new HistoryCourt();
        if (kind == MACHINE) {
            x.machine();
        }
        x.history(kind, 0);
        return x;
    }

    static HistoryCourt withHistories(int n) {
        HistoryCourt x = new HistoryCourt();
        for (int h = 0; h < n; h++) {
            x.history(CELL, 0);
        }
        return x;
    }

    static HistoryCourt withMachines(int n) {
        HistoryCourt x = new HistoryCourt();
        for (int m = 0; m < n; m++) {
            x.machine();
        }
        return x;
    }

    /** HISTORY 0 has n CALLS of CALLER 0: READs of a CELL that are answered with 0. */
    static HistoryCourt withCalls(int n) {
        HistoryCourt x = with(CELL);
        for (int c = 0; c < n; c++) {
            done(x, 0, 0, READ, 0, 0, 0);
        }
        return x;
    }

    /** A CALL of HISTORY h that is answered at once: its number. */
    static int done(HistoryCourt x, int h, int caller, int act, int a, int b, int v) {
        int c = x.begin(h, caller, act, a, b);
        x.answer(h, c, v);
        return c;
    }

    /** THE ROW is said, and checked against HISTORY 0. */
    static int checkRow(HistoryCourt x, int rule, int... row) {
        for (int c : row) {
            x.say(c);
        }
        return x.check(0, rule);
    }

    /** Whether one CALLER's CALLS, each ACT, a, b, answer, are what a thing of a kind answers in a row. */
    static int goesSo(int kind, int[]... calls) {
        HistoryCourt x = with(kind);
        for (int[] c : calls) {
            done(x, 0, 0, c[0], c[1], c[2], c[3]);
        }
        return x.judge(0, STRICT);
    }

    static int[] call(int act, int a, int b, int v) {
        return new int[] {act, a, b, v};
    }
}
