/**
 * Each number that each call takes: the last ones that are allowed and the first ones that are not, on
 * both sides, and the farthest ones. Each is asked of a court of its own.
 */
public final class RangesTest {
    private static final Due DUE = new Due();

    private interface Ask {
        long with(int n);
    }

    public static void main(String[] args) {
        machineNumbers();
        rowNumbers();
        historyNumbers();
        historiesOfEachCall();
        callsOfEachCall();
        rulesOfEachCall();
        beginCallers();
        beginActs();
        beginA();
        beginB();
        answers();
        whats();
        firstPlaces();
        partPlaces();
        fillPlaces();
        apartKeys();
        sayNumbers();
        DUE.end();
    }

    /** From lo to hi it is not refused; outside it is. */
    private static void range(String what, int lo, int hi, int refusal, Ask ask) {
        for (int n = lo; n <= hi; n++) {
            long got = ask.with(n);
            DUE.holds(what + " " + n + " is allowed, got " + got, got >= 0);
        }
        for (int n : new int[] {lo - 1, hi + 1, Bench.LOW, Bench.HIGH}) {
            DUE.is(what + " " + n, ask.with(n), refusal);
        }
    }

    private static void any(String what, Ask ask) {
        for (int n : new int[] {Bench.LOW, -65536, -17, -4, -1, 0, 1, 4, 16, 65536, Bench.HIGH}) {
            long got = ask.with(n);
            DUE.holds(what + " " + n + " is allowed, got " + got, got >= 0);
        }
    }

    private static void machineNumbers() {
        DUE.is("no MACHINE: row", new HistoryCourt().row(0, 0, 0, 0, 0), Bench.NONE);
        DUE.is("no MACHINE: history", new HistoryCourt().history(Bench.MACHINE, 0), Bench.NONE);
        for (int count = 1; count <= 4; count++) {
            int machines = count;
            range("row: MACHINE, of " + count, 0, count - 1, Bench.NONE,
                n -> Bench.withMachines(machines).row(n, 0, 0, 0, 0));
            range("history: MACHINE, of " + count, 0, count - 1, Bench.NONE,
                n -> Bench.withMachines(machines).history(Bench.MACHINE, n));
        }
    }

    private static void rowNumbers() {
        range("row: state", 0, 7, Bench.BAD, n -> Bench.withMachines(1).row(0, n, 0, 0, 0));
        range("row: ACT", 0, 3, Bench.BAD, n -> Bench.withMachines(1).row(0, 0, n, 0, 0));
        range("row: next", 0, 7, Bench.BAD, n -> Bench.withMachines(1).row(0, 0, 0, 0, n));
        any("row: answer", n -> Bench.withMachines(1).row(0, 0, 0, n, 0));
    }

    private static void historyNumbers() {
        range("history: kind", 0, 6, Bench.NONE, n -> Bench.withMachines(1).history(n, 0));
        for (int kind = 0; kind < 6; kind++) {
            int k = kind;
            range("history: machine, of kind " + kind, 0, 0, Bench.BAD, n -> new HistoryCourt().history(k, n));
            range("history: machine, though there are 4, of kind " + kind, 0, 0, Bench.BAD,
                n -> Bench.withMachines(4).history(k, n));
        }
    }

    /** HISTORIES 0 .. last are there; each has an OPEN CALL 0 and an ANSWERED CALL 1. */
    private static HistoryCourt twoCallsEach(int kind, int last) {
        HistoryCourt x = new HistoryCourt();
        for (int h = 0; h <= last; h++) {
            x.history(kind, 0);
            x.begin(h, 0, Bench.READ, 0, 0);
            Bench.done(x, h, 1, Bench.READ, 0, 0, 0);
        }
        return x;
    }

    private static void historiesOfEachCall() {
        range("copy", 0, 10, Bench.NONE, n -> twoCallsEach(Bench.CELL, 10).copy(n));
        for (int count = 1; count <= 12; count += 11) {
            int last = count - 1;
            String of = ": HISTORY, of " + count;
            range("begin" + of, 0, last, Bench.NONE, n -> twoCallsEach(Bench.CELL, last).begin(n, 1, 0, 0, 0));
            range("answer" + of, 0, last, Bench.NONE, n -> twoCallsEach(Bench.CELL, last).answer(n, 0, 0));
            range("alter" + of, 0, last, Bench.NONE, n -> altered(twoCallsEach(Bench.CELL, last), n, 1));
            range("answered" + of, 0, last, Bench.NONE, n -> asked(twoCallsEach(Bench.CELL, last), n, 1));
            range("call" + of, 0, last, Bench.NONE, n -> twoCallsEach(Bench.CELL, last).call(n, 0, 0));
            range("about" + of, 0, last, Bench.NONE, n -> twoCallsEach(Bench.CELL, last).about(n, 0));
            range("ahead" + of, 0, last, Bench.NONE, n -> twoCallsEach(Bench.CELL, last).ahead(n, 0, 0, 1));
            range("judge" + of, 0, last, Bench.NONE, n -> twoCallsEach(Bench.CELL, last).judge(n, 0));
            range("first" + of, 0, last, Bench.NONE, n -> twoCallsEach(Bench.CELL, last).first(n, 0, 0));
            range("orders" + of, 0, last, Bench.NONE, n -> twoCallsEach(Bench.CELL, last).orders(n, 0));
            range("least" + of, 0, last, Bench.NONE, n -> twoCallsEach(Bench.CELL, last).least(n, 0));
            range("fills" + of, 0, last, Bench.NONE, n -> twoCallsEach(Bench.CELL, last).fills(n, 0, 0));
            range("apart" + of, 0, last, Bench.NONE, n -> twoCallsEach(Bench.MAP, last).apart(n, 0, 0));
            range("rules" + of, 0, last, Bench.NONE, n -> twoCallsEach(Bench.CELL, last).rules(n));
            range("check" + of, 0, last, Bench.NONE, n -> twoCallsEach(Bench.CELL, last).check(n, 0));
        }
    }

    private static int altered(HistoryCourt x, int h, int call) {
        x.alter(h, call, 5);
        return x.status();
    }

    private static int asked(HistoryCourt x, int h, int call) {
        x.answered(h, call);
        return x.status();
    }

    /** As many OPEN CALLS as CALLERS, at most 4. */
    private static HistoryCourt withOpen(int n) {
        HistoryCourt x = Bench.with(Bench.CELL);
        for (int c = 0; c < n; c++) {
            x.begin(0, c, Bench.READ, 0, 0);
        }
        return x;
    }

    private static void callsOfEachCall() {
        for (int count = 1; count <= 10; count += 9) {
            int calls = count;
            int last = count - 1;
            String of = ": CALL, of " + count;
            range("alter" + of, 0, last, Bench.NONE, n -> altered(Bench.withCalls(calls), 0, n));
            range("answered" + of, 0, last, Bench.NONE, n -> asked(Bench.withCalls(calls), 0, n));
            range("call" + of, 0, last, Bench.NONE, n -> Bench.withCalls(calls).call(0, n, 0));
            range("ahead, x" + of, 0, last, Bench.NONE, n -> Bench.withCalls(calls).ahead(0, 0, n, 0));
            range("ahead, y" + of, 0, last, Bench.NONE, n -> Bench.withCalls(calls).ahead(0, 0, 0, n));
        }
        for (int count = 1; count <= 4; count += 3) {
            int calls = count;
            String of = ": CALL, of " + count + " OPEN ones";
            range("answer" + of, 0, count - 1, Bench.NONE, n -> withOpen(calls).answer(0, n, 0));
            range("fills" + of, 0, count - 1, Bench.NONE, n -> withOpen(calls).fills(0, 0, n));
        }
        DUE.is("answer: no CALL at all", Bench.with(Bench.CELL).answer(0, 0, 0), Bench.NONE);
        DUE.is("alter: no CALL at all", altered(Bench.with(Bench.CELL), 0, 0), Bench.NONE);
        DUE.is("answered: no CALL at all", asked(Bench.with(Bench.CELL), 0, 0), Bench.NONE);
        DUE.is("call: no CALL at all", Bench.with(Bench.CELL).call(0, 0, 0), Bench.NONE);
        DUE.is("ahead: no CALL at all", Bench.with(Bench.CELL).ahead(0, 0, 0, 0), Bench.NONE);
        DUE.is("fills: no CALL at all", Bench.with(Bench.CELL).fills(0, 0, 0), Bench.NONE);
    }

    private static void rulesOfEachCall() {
        range("ahead: RULE", 0, 2, Bench.NONE, n -> Bench.withCalls(2).ahead(0, n, 0, 1));
        range("judge: RULE", 0, 2, Bench.NONE, n -> Bench.withCalls(1).judge(0, n));
        range("first: RULE", 0, 2, Bench.NONE, n -> Bench.withCalls(1).first(0, n, 0));
        range("orders: RULE", 0, 2, Bench.NONE, n -> Bench.withCalls(1).orders(0, n));
        range("least: RULE", 0, 2, Bench.NONE, n -> Bench.withCalls(1).least(0, n));
        range("fills: RULE", 0, 2, Bench.NONE, n -> withOpen(1).fills(0, n, 0));
        range("apart: RULE", 0, 2, Bench.NONE, n -> Bench.with(Bench.MAP).apart(0, n, 0));
        range("check: RULE", 0, 2, Bench.NONE, n -> Bench.withCalls(1).check(0, n));
    }

    private static void beginCallers() {
        for (int kind = 0; kind < 7; kind++) {
            int k = kind;
            range("begin: CALLER, of kind " + kind, 0, 3, Bench.BAD, n -> Bench.with(k).begin(0, n, 0, 0, 0));
        }
    }

    private static void beginActs() {
        int[] acts = {3, 2, 2, 2, 3, 3, 4};
        for (int kind = 0; kind < 7; kind++) {
            int k = kind;
            range("begin: ACT, of kind " + kind, 0, acts[kind] - 1, Bench.BAD,
                n -> Bench.with(k).begin(0, 0, n, 0, 0));
        }
    }

    private static void beginA() {
        int[] acts = {3, 2, 2, 2, 3, 3, 4};
        for (int kind = 0; kind < 7; kind++) {
            int k = kind;
            for (int act = 0; act < acts[kind]; act++) {
                int t = act;
                String what = "begin: a of ACT " + act + ", of kind " + kind;
                if (kind == Bench.SET) {
                    range(what, 0, 15, Bench.BAD, n -> Bench.with(k).begin(0, 0, t, n, 0));
                } else if (kind == Bench.MAP) {
                    range(what, 0, 3, Bench.BAD, n -> Bench.with(k).begin(0, 0, t, n, 0));
                } else {
                    any(what, n -> Bench.with(k).begin(0, 0, t, n, 0));
                }
            }
        }
    }

    private static void beginB() {
        for (int kind = 0; kind < 7; kind++) {
            int k = kind;
            any("begin: b of ACT 0, of kind " + kind, n -> Bench.with(k).begin(0, 0, 0, 0, n));
        }
        any("begin: b of SWAP, of a CELL", n -> Bench.with(Bench.CELL).begin(0, 0, Bench.SWAP, 0, n));
        any("begin: b of WRITE, of a MAP", n -> Bench.with(Bench.MAP).begin(0, 0, Bench.WRITE, 0, n));
        any("begin: b of SWAP, of a MAP", n -> Bench.with(Bench.MAP).begin(0, 0, Bench.SWAP, 0, n));
    }

    private static void answers() {
        any("answer: v", n -> withOpen(1).answer(0, 0, n));
        for (int v : new int[] {Bench.LOW, -4, -3, -2, -1, 0, 1, Bench.HIGH}) {
            HistoryCourt x = withOpen(1);
            x.answer(0, 0, v);
            DUE.is("answered: " + v, x.answered(0, 0), v);
            DUE.is("answered: status of " + v, x.status(), 0);
            x.alter(0, 0, 9);
            x.alter(0, 0, v);
            DUE.is("alter: what it was, and it was altered from 9 to " + v, x.alter(0, 0, 8), v);
            DUE.is("alter: status of " + v, x.status(), 0);
        }
    }

    private static void whats() {
        range("call: what", 0, 3, Bench.NONE, n -> Bench.withCalls(1).call(0, 0, n));
        range("about: what", 0, 3, Bench.NONE, n -> Bench.withCalls(1).about(0, n));
    }

    private static void firstPlaces() {
        for (int count = 1; count <= 10; count++) {
            int calls = count;
            for (int rule = 0; rule < 3; rule++) {
                int r = rule;
                range("first: i, of " + count + " by " + rule, 0, count - 1, Bench.NONE,
                    n -> Bench.withCalls(calls).first(0, r, n));
            }
        }
        DUE.is("first: of no CALLS", Bench.with(Bench.CELL).first(0, Bench.STRICT, 0), Bench.NONE);
        HistoryCourt x = Bench.withCalls(10);
        x.alter(0, 9, 1);
        for (int i = -1; i <= 10; i++) {
            DUE.is("first: not TAKEN, i " + i, x.first(0, Bench.STRICT, i), Bench.NONE);
        }
    }

    /**
     * A LEAST PART of 1 .. 10 CALLS: a MACHINE goes round its 8 states by ACT 0, and ACT 1 tells whether it is
     * in that to which all the others bring it; it was answered that it is not, which is so without any of them.
     */
    static HistoryCourt withLeastPart(int n) {
        HistoryCourt x = Bench.withMachines(1);
        for (int state = 0; state < 8; state++) {
            x.row(0, state, 0, 0, (state + 1) % 8);
            x.row(0, state, 1, state == (n - 1) % 8 ? 1 : 0, state);
        }
        x.history(Bench.MACHINE, 0);
        for (int c = 0; c < n; c++) {
            Bench.done(x, 0, 0, c == n - 1 ? 1 : 0, 0, 0, 0);
        }
        return x;
    }

    private static void partPlaces() {
        for (int count = 1; count <= 10; count++) {
            int calls = count;
            HistoryCourt x = withLeastPart(count);
            DUE.is("least: none can be left out of " + count, x.least(0, Bench.STRICT), count);
            for (int i = 0; i < count; i++) {
                DUE.is("part: i " + i + ", of " + count, x.part(i), i);
            }
            range("part: i, of " + count, 0, count - 1, Bench.NONE, n -> partOf(withLeastPart(calls), n));
        }
        DUE.is("part: none told", new HistoryCourt().part(0), Bench.NONE);
        DUE.is("part: of one that is TAKEN", partOf(Bench.withCalls(3), 0), Bench.NONE);
    }

    private static int partOf(HistoryCourt x, int i) {
        x.least(0, Bench.STRICT);
        return x.part(i);
    }

    /** CALL 0 is an OPEN READ; others WRITE 10, 20, .., so that it may have been answered with n values. */
    private static HistoryCourt withFills(int n) {
        HistoryCourt x = Bench.with(Bench.CELL);
        x.begin(0, 0, Bench.READ, 0, 0);
        for (int c = 1; c < n; c++) {
            Bench.done(x, 0, c % 4 == 0 ? 1 : c % 4, Bench.WRITE, 10 * c, 0, 0);
        }
        return x;
    }

    private static int fillStatus(HistoryCourt x, int i) {
        x.fills(0, Bench.STRICT, 0);
        x.fill(i);
        return x.status();
    }

    private static void fillPlaces() {
        for (int count = 1; count <= 10; count++) {
            int fills = count;
            HistoryCourt x = withFills(count);
            DUE.is("fills: " + count, x.fills(0, Bench.STRICT, 0), count);
            for (int i = 0; i < count; i++) {
                DUE.is("fill: " + i + " of " + count, x.fill(i), 10 * i);
            }
            for (int i : new int[] {-1, count, Bench.LOW, Bench.HIGH}) {
                DUE.is("fill: " + i + " of " + count, x.fill(i), 0);
            }
            range("fill: status of i, of " + count, 0, count - 1, Bench.NONE, n -> fillStatus(withFills(fills), n));
        }
        HistoryCourt none = Bench.withCalls(1);
        none.alter(0, 0, 1);
        none.begin(0, 1, Bench.READ, 0, 0);
        DUE.is("fills: not TAKEN", none.fills(0, Bench.STRICT, 1), 0);
        DUE.is("fill: of none", none.fill(0), 0);
        DUE.is("fill: of none, status", none.status(), Bench.NONE);
    }

    private static void apartKeys() {
        range("apart: KEY", 0, 3, Bench.NONE, n -> Bench.with(Bench.MAP).apart(0, Bench.STRICT, n));
        for (int kind = 0; kind < 7; kind++) {
            for (int key = 0; key < 4; key++) {
                DUE.is("apart: of kind " + kind, Bench.with(kind).apart(0, Bench.STRICT, key),
                    kind == Bench.MAP ? 1 : Bench.NONE);
            }
        }
    }

    private static void sayNumbers() {
        range("say", 0, 9, Bench.BAD, n -> new HistoryCourt().say(n));
        range("say: behind 9 others", 0, 9, Bench.BAD, n -> sayBehind(9, n));
        for (int n : new int[] {0, 9}) {
            DUE.is("say: " + n + " behind 10 others", sayBehind(10, n), Bench.FULL);
        }
    }

    private static int sayBehind(int others, int n) {
        HistoryCourt x = new HistoryCourt();
        for (int i = 0; i < others; i++) {
            x.say(i);
        }
        return x.say(n);
    }
}
