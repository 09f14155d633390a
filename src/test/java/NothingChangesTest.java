/** Section 4 of the document: each refusal of each call, and that it changes nothing that a later call shows. */
public final class NothingChangesTest {
    private static final int NONE = Bench.NONE, BAD = Bench.BAD, STATE = Bench.STATE, FULL = Bench.FULL;
    private static final int LOW = Bench.LOW, HIGH = Bench.HIGH;

    private static final Due DUE = new Due();

    private interface Ask {
        long of(HistoryCourt x);
    }

    public static void main(String[] args) {
        viewSeesChanges();
        rowRefused();
        historyRefused();
        copyRefused();
        beginRefused();
        answerRefused();
        alterRefused();
        answeredRefused();
        lookingRefused();
        judgingRefused();
        leastRefused();
        fillsRefused();
        fillRefused();
        sayRefused();
        checkRefused();
        fullRefused();
        fullLeavesTheMachineFree();
        DUE.end();
    }

    /**
     * A court in the midst of things: HISTORY 0 of a CELL, 1 of a MAP, 2 of MACHINE 0, 3 of a QUEUE with ten
     * CALLS; a LEAST PART and fills were told, THE ROW has two, an answered() was refused.
     */
    private static HistoryCourt scene() {
        HistoryCourt x = Bench.withMachines(3);
        for (int m = 0; m < 2; m++) {
            x.row(m, 0, 0, 60 + m, 1);
            x.row(m, 0, 3, 70 + m, 7);
            x.row(m, 1, 0, 80 + m, 7);
            x.row(m, 7, 3, 90 + m, 0);
        }
        x.history(Bench.CELL, 0);
        Bench.done(x, 0, 0, Bench.WRITE, 5, 0, 0);
        Bench.done(x, 0, 1, Bench.READ, 0, 0, 0);
        x.begin(0, 2, Bench.WRITE, 7, 0);
        x.history(Bench.MAP, 0);
        Bench.done(x, 1, 3, Bench.WRITE, 3, 5, 0);
        Bench.done(x, 1, 0, Bench.READ, 3, 0, 0);
        x.history(Bench.MACHINE, 0);
        x.begin(2, 0, 0, 0, 0);
        x.begin(2, 1, 3, 0, 0);
        x.history(Bench.QUEUE, 0);
        for (int c = 0; c < 9; c++) {
            Bench.done(x, 3, c % 4, 0, c, 0, c + 1);
        }
        x.begin(3, 0, 1, 0, 0);
        x.say(1);
        x.say(0);
        x.least(0, Bench.STRICT);
        x.fills(2, Bench.STRICT, 1);
        x.answered(0, 2);
        return x;
    }

    /** The same with no room: 4 MACHINES, 12 HISTORIES, ten in THE ROW. */
    private static HistoryCourt fullScene() {
        HistoryCourt x = scene();
        x.machine();
        for (int h = 4; h < 12; h++) {
            x.copy(0);
        }
        for (int i = 2; i < 10; i++) {
            x.say(2);
        }
        return x;
    }

    private static void refused(String what, int due, Ask ask) {
        HistoryCourt x = scene();
        DUE.is(what, ask.of(x), due);
        DUE.holds(what + " changes nothing", View.of(x).equals(View.of(scene())));
    }

    private static void refusedWhenFull(String what, int due, Ask ask) {
        HistoryCourt x = fullScene();
        DUE.is(what, ask.of(x), due);
        DUE.holds(what + " changes nothing", View.of(x).equals(View.of(fullScene())));
    }

    /** It answers 0, and status() the refusal; all else is as it was. */
    private static void refusedByStatus(String what, int due, Ask ask) {
        HistoryCourt x = scene();
        DUE.is(what, ask.of(x), 0);
        DUE.is(what + ", status", x.status(), due);
        DUE.holds(what + " changes nothing else", View.withoutStatus(x).equals(View.withoutStatus(scene())));
    }

    private static void seen(String what, Ask ask) {
        HistoryCourt x = scene();
        ask.of(x);
        DUE.holds(what + " is seen", !View.of(x).equals(View.of(scene())));
    }

    /** The tests of this file would mean nothing if the view were blind. */
    private static void viewSeesChanges() {
        seen("machine", x -> x.machine());
        seen("row", x -> x.row(1, 0, 0, 9, 1));
        seen("row's next", x -> x.row(1, 0, 0, 61, 0));
        seen("history", x -> x.history(0, 0));
        seen("copy", x -> x.copy(0));
        seen("begin", x -> x.begin(0, 0, 0, 0, 0));
        seen("answer", x -> x.answer(0, 2, 0));
        seen("alter", x -> x.alter(0, 1, 1));
        seen("answered", x -> x.answered(0, 1));
        seen("least", x -> x.least(0, Bench.BY_CALLER));
        seen("fills", x -> x.fills(2, Bench.STRICT, 0));
        seen("say", x -> x.say(2));
        seen("check", x -> x.check(0, 0));
    }

    private static void rowRefused() {
        for (int machine : new int[] {-1, 3, LOW, HIGH}) {
            refused("row: MACHINE " + machine, NONE, x -> x.row(machine, 0, 0, 9, 1));
        }
        for (int wrong : new int[] {-1, 8, LOW, HIGH}) {
            refused("row: state " + wrong, BAD, x -> x.row(1, wrong, 0, 9, 1));
            refused("row: next " + wrong, BAD, x -> x.row(1, 0, 0, 9, wrong));
        }
        for (int wrong : new int[] {-1, 4, LOW, HIGH}) {
            refused("row: ACT " + wrong, BAD, x -> x.row(1, 0, wrong, 9, 1));
            refused("row: ACT " + wrong + " in 1", BAD, x -> x.row(1, 1, wrong, 9, 1));
        }
        refused("row: a HISTORY is of it", STATE, x -> x.row(0, 0, 0, 9, 1));
        refused("row: a HISTORY is of it", STATE, x -> x.row(0, 7, 3, 9, 7));
    }

    private static void historyRefused() {
        for (int kind : new int[] {-1, 7, LOW, HIGH}) {
            refused("history: kind " + kind, NONE, x -> x.history(kind, 0));
        }
        for (int machine : new int[] {-1, 3, LOW, HIGH}) {
            refused("history: MACHINE " + machine, NONE, x -> x.history(Bench.MACHINE, machine));
        }
        for (int kind = 0; kind < 6; kind++) {
            int k = kind;
            refused("history: machine 1 of kind " + kind, BAD, x -> x.history(k, 1));
            refused("history: machine -1 of kind " + kind, BAD, x -> x.history(k, -1));
        }
    }

    private static void copyRefused() {
        for (int h : new int[] {-1, 4, LOW, HIGH}) {
            refused("copy: HISTORY " + h, NONE, x -> x.copy(h));
        }
    }

    private static void beginRefused() {
        for (int h : new int[] {-1, 4, LOW, HIGH}) {
            refused("begin: HISTORY " + h, NONE, x -> x.begin(h, 0, 0, 0, 0));
        }
        for (int wrong : new int[] {-1, 4, LOW, HIGH}) {
            refused("begin: CALLER " + wrong, BAD, x -> x.begin(0, wrong, 0, 0, 0));
            refused("begin: ACT " + wrong, BAD, x -> x.begin(0, 0, wrong, 0, 0));
            refused("begin: KEY " + wrong, BAD, x -> x.begin(1, 0, 0, wrong, 0));
            refused("begin: ACT of a MACHINE " + wrong, BAD, x -> x.begin(2, 2, wrong, 0, 0));
        }
        refused("begin: it has an OPEN one", STATE, x -> x.begin(0, 2, 0, 0, 0));
        refused("begin: an eleventh", FULL, x -> x.begin(3, 1, 0, 0, 0));
    }

    private static void answerRefused() {
        for (int h : new int[] {-1, 4, LOW, HIGH}) {
            refused("answer: HISTORY " + h, NONE, x -> x.answer(h, 2, 9));
        }
        for (int call : new int[] {-1, 3, LOW, HIGH}) {
            refused("answer: CALL " + call, NONE, x -> x.answer(0, call, 9));
        }
        refused("answer: ANSWERED already", STATE, x -> x.answer(0, 1, 9));
    }

    private static void alterRefused() {
        for (int h : new int[] {-1, 4, LOW, HIGH}) {
            refusedByStatus("alter: HISTORY " + h, NONE, x -> x.alter(h, 1, 9));
        }
        for (int call : new int[] {-1, 3, LOW, HIGH}) {
            refusedByStatus("alter: CALL " + call, NONE, x -> x.alter(0, call, 9));
        }
        refusedByStatus("alter: OPEN", STATE, x -> x.alter(0, 2, 9));
    }

    private static void answeredRefused() {
        for (int h : new int[] {-1, 4, LOW, HIGH}) {
            refusedByStatus("answered: HISTORY " + h, NONE, x -> x.answered(h, 1));
        }
        for (int call : new int[] {-1, 3, LOW, HIGH}) {
            refusedByStatus("answered: CALL " + call, NONE, x -> x.answered(0, call));
        }
        refusedByStatus("answered: OPEN", STATE, x -> x.answered(0, 2));
    }

    private static void lookingRefused() {
        for (int h : new int[] {-1, 4, LOW, HIGH}) {
            refused("call: HISTORY " + h, NONE, x -> x.call(h, 0, 0));
            refused("about: HISTORY " + h, NONE, x -> x.about(h, 0));
            refused("ahead: HISTORY " + h, NONE, x -> x.ahead(h, 0, 0, 1));
        }
        for (int wrong : new int[] {-1, 3, LOW, HIGH}) {
            refused("call: CALL " + wrong, NONE, x -> x.call(0, wrong, 0));
            refused("ahead: RULE " + wrong, NONE, x -> x.ahead(0, wrong, 0, 1));
            refused("ahead: x " + wrong, NONE, x -> x.ahead(0, 0, wrong, 1));
            refused("ahead: y " + wrong, NONE, x -> x.ahead(0, 0, 0, wrong));
        }
        for (int what : new int[] {-1, 4, LOW, HIGH}) {
            refused("call: what " + what, NONE, x -> x.call(0, 0, what));
            refused("about: what " + what, NONE, x -> x.about(0, what));
        }
    }

    private static void judgingRefused() {
        for (int h : new int[] {-1, 4, LOW, HIGH}) {
            refused("judge: HISTORY " + h, NONE, x -> x.judge(h, 0));
            refused("first: HISTORY " + h, NONE, x -> x.first(h, 0, 0));
            refused("orders: HISTORY " + h, NONE, x -> x.orders(h, 0));
            refused("apart: HISTORY " + h, NONE, x -> x.apart(h, 0, 0));
            refused("rules: HISTORY " + h, NONE, x -> x.rules(h));
        }
        for (int wrong : new int[] {-1, 3, LOW, HIGH}) {
            refused("judge: RULE " + wrong, NONE, x -> x.judge(0, wrong));
            refused("first: RULE " + wrong, NONE, x -> x.first(0, wrong, 0));
            refused("first: i " + wrong, NONE, x -> x.first(0, Bench.BY_CALLER, wrong));
            refused("orders: RULE " + wrong, NONE, x -> x.orders(0, wrong));
            refused("apart: RULE " + wrong, NONE, x -> x.apart(1, wrong, 0));
            refused("part: i " + wrong, NONE, x -> x.part(wrong));
        }
        refused("first: not TAKEN", NONE, x -> x.first(0, Bench.STRICT, 0));
        refused("part: one too far", NONE, x -> x.part(2));
        for (int key : new int[] {-1, 4, LOW, HIGH}) {
            refused("apart: KEY " + key, NONE, x -> x.apart(1, 0, key));
        }
        for (int h : new int[] {0, 2, 3}) {
            refused("apart: another MODEL, of HISTORY " + h, NONE, x -> x.apart(h, 0, 0));
        }
    }

    private static void leastRefused() {
        for (int h : new int[] {-1, 4, LOW, HIGH}) {
            refused("least: HISTORY " + h, NONE, x -> x.least(h, Bench.BY_CALLER));
        }
        for (int rule : new int[] {-1, 3, LOW, HIGH}) {
            refused("least: RULE " + rule, NONE, x -> x.least(1, rule));
        }
    }

    private static void fillsRefused() {
        for (int h : new int[] {-1, 4, LOW, HIGH}) {
            refused("fills: HISTORY " + h, NONE, x -> x.fills(h, 0, 0));
        }
        for (int wrong : new int[] {-1, 3, LOW, HIGH}) {
            refused("fills: RULE " + wrong, NONE, x -> x.fills(0, wrong, 2));
            refused("fills: CALL " + wrong, NONE, x -> x.fills(0, 0, wrong));
        }
        refused("fills: ANSWERED", STATE, x -> x.fills(0, 0, 1));
    }

    private static void fillRefused() {
        for (int i : new int[] {-1, 2, LOW, HIGH}) {
            refusedByStatus("fill: " + i, NONE, x -> x.fill(i));
        }
    }

    private static void sayRefused() {
        for (int call : new int[] {-1, 10, LOW, HIGH}) {
            refused("say: " + call, BAD, x -> x.say(call));
        }
    }

    private static void checkRefused() {
        for (int h : new int[] {-1, 4, LOW, HIGH}) {
            refused("check: HISTORY " + h, NONE, x -> x.check(h, 0));
        }
        for (int rule : new int[] {-1, 3, LOW, HIGH}) {
            refused("check: RULE " + rule, NONE, x -> x.check(0, rule));
        }
    }

    private static void fullRefused() {
        refusedWhenFull("machine: a fifth", FULL, x -> x.machine());
        for (int kind = 0; kind < 7; kind++) {
            int k = kind;
            refusedWhenFull("history: a thirteenth of kind " + kind, FULL, x -> x.history(k, 0));
        }
        for (int h = 0; h < 12; h++) {
            int one = h;
            refusedWhenFull("copy: a thirteenth", FULL, x -> x.copy(one));
        }
        for (int call = 0; call < 10; call++) {
            int c = call;
            refusedWhenFull("say: an eleventh", FULL, x -> x.say(c));
        }
        refusedWhenFull("begin: an eleventh", FULL, x -> x.begin(3, 1, 0, 0, 0));
    }

    /** A HISTORY that was refused is of no MACHINE: its table can be told still. */
    private static void fullLeavesTheMachineFree() {
        HistoryCourt x = Bench.withHistories(12);
        x.machine();
        DUE.is("history: FULL", x.history(Bench.MACHINE, 0), FULL);
        DUE.is("row: no HISTORY is of it", x.row(0, 0, 0, 1, 1), 0);
        HistoryCourt y = Bench.withMachines(1);
        DUE.is("history: BAD", y.history(Bench.CELL, 1), BAD);
        DUE.is("history: NONE", y.history(7, 0), NONE);
        DUE.is("row: no HISTORY is of it", y.row(0, 0, 0, 1, 1), 0);
    }
}
