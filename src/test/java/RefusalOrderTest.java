/** Section 4 of the document: of several refusals that fit, the first one in the order NONE, BAD, STATE, FULL. */
public final class RefusalOrderTest {
    private static final int NONE = Bench.NONE, BAD = Bench.BAD, STATE = Bench.STATE, FULL = Bench.FULL;

    private static final Due DUE = new Due();

    public static void main(String[] args) {
        row();
        historyOfNoRoom();
        historyOfNoKind();
        copy();
        beginOfNoHistory();
        beginBadAndState();
        beginBadAndFull();
        beginStateAndFull();
        alterAndAnswered();
        fills();
        say();
        check();
        DUE.end();
    }

    private static void row() {
        HistoryCourt x = Bench.withMachines(2);
        x.history(Bench.MACHINE, 0);
        DUE.is("row: NONE, not BAD by its state", x.row(2, 8, 0, 0, 0), NONE);
        DUE.is("row: NONE, not BAD by its ACT", x.row(2, 0, 4, 0, 0), NONE);
        DUE.is("row: NONE, not BAD by its next", x.row(-1, 0, 0, 0, 8), NONE);
        DUE.is("row: BAD by its state, not STATE", x.row(0, 8, 0, 0, 0), BAD);
        DUE.is("row: BAD by its state, not STATE", x.row(0, -1, 0, 0, 0), BAD);
        DUE.is("row: BAD by its ACT, not STATE", x.row(0, 0, 4, 0, 0), BAD);
        DUE.is("row: BAD by its ACT, not STATE", x.row(0, 0, -1, 0, 0), BAD);
        DUE.is("row: BAD by its next, not STATE", x.row(0, 0, 0, 0, 8), BAD);
        DUE.is("row: BAD by its next, not STATE", x.row(0, 0, 0, 0, -1), BAD);
        DUE.is("row: STATE", x.row(0, 0, 0, 0, 0), STATE);
    }

    private static void historyOfNoRoom() {
        HistoryCourt x = Bench.withHistories(12);
        x.machine();
        DUE.is("history: NONE by its kind, not FULL", x.history(7, 0), NONE);
        DUE.is("history: NONE by its kind, not FULL", x.history(-1, 0), NONE);
        DUE.is("history: NONE by its MACHINE, not FULL", x.history(Bench.MACHINE, 1), NONE);
        DUE.is("history: NONE by its MACHINE, not FULL", x.history(Bench.MACHINE, -1), NONE);
        for (int kind = 0; kind < 6; kind++) {
            DUE.is("history: BAD by its machine, not FULL", x.history(kind, 1), BAD);
            DUE.is("history: FULL", x.history(kind, 0), FULL);
        }
        DUE.is("history: FULL", x.history(Bench.MACHINE, 0), FULL);
        DUE.is("history: NONE, not BAD, not FULL", x.history(7, 1), NONE);
    }

    private static void historyOfNoKind() {
        for (HistoryCourt x : new HistoryCourt[] {new HistoryCourt(), Bench.withMachines(2)}) {
            DUE.is("history: NONE by its kind, not BAD by its machine", x.history(7, 1), NONE);
            DUE.is("history: NONE by its kind, not BAD by its machine", x.history(-1, -1), NONE);
        }
    }

    private static void copy() {
        HistoryCourt x = Bench.withHistories(12);
        DUE.is("copy: NONE, not FULL", x.copy(12), NONE);
        DUE.is("copy: NONE, not FULL", x.copy(-1), NONE);
        DUE.is("copy: FULL", x.copy(11), FULL);
    }

    private static void beginOfNoHistory() {
        HistoryCourt x = Bench.with(Bench.SET);
        DUE.is("begin: NONE, not BAD by its CALLER", x.begin(1, 4, 0, 0, 0), NONE);
        DUE.is("begin: NONE, not BAD by its ACT", x.begin(1, 0, 9, 0, 0), NONE);
        DUE.is("begin: NONE, not BAD by its a", x.begin(-1, 0, 0, 16, 0), NONE);
    }

    /** CALLER 0 has an OPEN CALL. */
    private static void beginBadAndState() {
        HistoryCourt x = Bench.with(Bench.SET);
        x.begin(0, 0, 0, 0, 0);
        DUE.is("begin: BAD by its ACT, not STATE", x.begin(0, 0, 3, 0, 0), BAD);
        DUE.is("begin: BAD by its ACT, not STATE", x.begin(0, 0, -1, 0, 0), BAD);
        DUE.is("begin: BAD by its a, not STATE", x.begin(0, 0, 0, 16, 0), BAD);
        DUE.is("begin: BAD by its a, not STATE", x.begin(0, 0, 0, -1, 0), BAD);
        DUE.is("begin: STATE", x.begin(0, 0, 0, 0, 0), STATE);
        HistoryCourt y = Bench.with(Bench.MAP);
        y.begin(0, 0, 0, 0, 0);
        DUE.is("begin: BAD by its KEY, not STATE", y.begin(0, 0, 0, 4, 0), BAD);
        DUE.is("begin: BAD by its KEY, not STATE", y.begin(0, 0, 0, -1, 0), BAD);
        DUE.is("begin: STATE", y.begin(0, 0, 0, 0, 0), STATE);
    }

    private static HistoryCourt tenOfASet() {
        HistoryCourt x = Bench.with(Bench.SET);
        for (int c = 0; c < 9; c++) {
            Bench.done(x, 0, 0, 2, 0, 0, 0);
        }
        x.begin(0, 1, 2, 0, 0);
        return x;
    }

    private static void beginBadAndFull() {
        HistoryCourt x = tenOfASet();
        DUE.is("begin: BAD by its CALLER, not FULL", x.begin(0, 4, 2, 0, 0), BAD);
        DUE.is("begin: BAD by its CALLER, not FULL", x.begin(0, -1, 2, 0, 0), BAD);
        DUE.is("begin: BAD by its ACT, not FULL", x.begin(0, 0, 3, 0, 0), BAD);
        DUE.is("begin: BAD by its a, not FULL", x.begin(0, 0, 2, 16, 0), BAD);
        DUE.is("begin: BAD, not STATE, not FULL", x.begin(0, 1, 2, 16, 0), BAD);
        DUE.is("begin: NONE, not FULL", x.begin(1, 0, 2, 0, 0), NONE);
        DUE.is("begin: FULL", x.begin(0, 0, 2, 0, 0), FULL);
    }

    private static void beginStateAndFull() {
        HistoryCourt x = tenOfASet();
        DUE.is("begin: STATE, not FULL", x.begin(0, 1, 2, 0, 0), STATE);
        x.answer(0, 9, 0);
        DUE.is("begin: FULL, as it is OPEN no more", x.begin(0, 1, 2, 0, 0), FULL);
    }

    private static void alterAndAnswered() {
        HistoryCourt x = Bench.with(Bench.CELL);
        x.begin(0, 0, 0, 0, 0);
        x.answered(0, 0);
        DUE.is("answered: STATE", x.status(), STATE);
        x.answered(0, 1);
        DUE.is("answered: NONE", x.status(), NONE);
        x.alter(0, 0, 1);
        DUE.is("alter: STATE", x.status(), STATE);
        x.alter(1, 0, 1);
        DUE.is("alter: NONE", x.status(), NONE);
    }

    private static void fills() {
        HistoryCourt x = Bench.withCalls(1);
        DUE.is("fills: STATE", x.fills(0, 2, 0), STATE);
        DUE.is("fills: NONE by its RULE, not STATE", x.fills(0, 3, 0), NONE);
        DUE.is("fills: NONE by its RULE, not STATE", x.fills(0, -1, 0), NONE);
        DUE.is("fills: NONE by its HISTORY", x.fills(1, 2, 0), NONE);
        DUE.is("fills: NONE by its CALL", x.fills(0, 2, 1), NONE);
    }

    private static void say() {
        HistoryCourt x = new HistoryCourt();
        for (int n = 0; n < 10; n++) {
            x.say(n);
        }
        DUE.is("say: BAD, not FULL", x.say(10), BAD);
        DUE.is("say: BAD, not FULL", x.say(-1), BAD);
        DUE.is("say: FULL", x.say(9), FULL);
        DUE.is("say: FULL", x.say(0), FULL);
    }

    /** A ROW with a fault, and no such HISTORY or RULE. */
    private static void check() {
        HistoryCourt x = Bench.withCalls(1);
        x.say(9);
        DUE.is("check: NONE by its RULE, not the place", x.check(0, 3), NONE);
        DUE.is("check: NONE by its HISTORY, not the place", x.check(1, 0), NONE);
        DUE.is("check: the place", x.check(0, 0), 0);
    }
}
