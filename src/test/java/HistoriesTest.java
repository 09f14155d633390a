/** Sections 2 and 3 of the document: each sentence that names an edge has a test of its own. */
public final class HistoriesTest {
    private static final int STRICT = Bench.STRICT, QUIET = Bench.QUIET, BY_CALLER = Bench.BY_CALLER;
    private static final int READ = Bench.READ, WRITE = Bench.WRITE;

    private static final Due DUE = new Due();

    public static void main(String[] args) {
        fourMachinesAtMost();
        twelveHistoriesAtMost();
        twelveCopiesAtMost();
        tenCallsAtMost();
        tenCallsOfEachHistory();
        ticksAreOneByOne();
        ticksOfEachHistory();
        twentyTicks();
        oneOpenCallOfACaller();
        openCallsOfEachHistory();
        strictByTheNextTick();
        openIsAheadOfNone();
        noneIsAheadOfItself();
        quietAtTheTickOfTheAnswer();
        quietAtTheLastTickBelow();
        quietOnlyFromTheAnswerOn();
        quietOnlyBelowTheBegin();
        quietNeverWithAnOpenOne();
        quietOfOneCaller();
        byCallerOfOneCaller();
        byCallerOfEachCaller();
        orderOfNoCalls();
        orderWithAndWithoutOpenOnes();
        orderHasAllAnsweredOnes();
        firstIsTheShorterOne();
        firstIsTheLesserOne();
        firstOfTen();
        leastOfOneCall();
        leastLeavesOutOpenOnes();
        leastFromTheLeastNumberOn();
        leastGoesRoundAgain();
        leastGoesRoundTillNoneCan();
        leastGoesOnBehindOneLeftOut();
        leastKeepsNumbersAndTicks();
        partCountsAloneForQuiet();
        apartCountsAloneForQuiet();
        aheadCountsAllForQuiet();
        DUE.end();
    }

    private static void fourMachinesAtMost() {
        HistoryCourt x = new HistoryCourt();
        for (int m = 0; m < 4; m++) {
            DUE.is("MACHINES are numbered from 0 on", x.machine(), m);
        }
        DUE.is("MACHINES: 4 at most", x.machine(), Bench.FULL);
        DUE.is("MACHINES: 4 at most, again", x.machine(), Bench.FULL);
        DUE.is("MACHINES: the last is there", x.row(3, 7, 3, 1, 7), 0);
        DUE.is("MACHINES: a fifth is not", x.row(4, 7, 3, 1, 7), Bench.NONE);
    }

    private static void twelveHistoriesAtMost() {
        HistoryCourt x = Bench.withMachines(1);
        for (int h = 0; h < 12; h++) {
            DUE.is("HISTORIES are numbered from 0 on", x.history(h % 7, 0), h);
        }
        for (int kind = 0; kind < 7; kind++) {
            DUE.is("HISTORIES: 12 at most, of kind " + kind, x.history(kind, 0), Bench.FULL);
        }
        DUE.is("HISTORIES: 12 at most, by copy", x.copy(11), Bench.FULL);
        for (int h = 0; h < 12; h++) {
            DUE.is("HISTORIES: each of a MODEL", x.about(h, 0), h % 7);
        }
        DUE.is("HISTORIES: a thirteenth is not there", x.about(12, 0), Bench.NONE);
    }

    private static void twelveCopiesAtMost() {
        HistoryCourt x = Bench.withHistories(1);
        for (int h = 1; h < 12; h++) {
            DUE.is("copies are numbered as HISTORIES", x.copy(0), h);
        }
        DUE.is("copy: 12 HISTORIES at most", x.copy(0), Bench.FULL);
        DUE.is("history: 12 with the copies", x.history(Bench.CELL, 0), Bench.FULL);
        DUE.is("copy: a thirteenth is not there", x.about(12, 0), Bench.NONE);
    }

    private static void tenCallsAtMost() {
        HistoryCourt x = Bench.with(Bench.QUEUE);
        for (int c = 0; c < 10; c++) {
            DUE.is("CALLS are numbered from 0 on", Bench.done(x, 0, c % 4, 0, c, 0, c + 1), c);
        }
        for (int caller = 0; caller < 4; caller++) {
            DUE.is("CALLS: 10 at most", x.begin(0, caller, 0, 0, 0), Bench.FULL);
        }
        DUE.is("CALLS: 10", x.about(0, 1), 10);
        DUE.is("CALLS: no TICK for an eleventh", x.about(0, 3), 20);
        DUE.is("CALLS: all ten are judged", x.orders(0, BY_CALLER), 1);
    }

    private static void tenCallsOfEachHistory() {
        HistoryCourt x = Bench.withCalls(10);
        DUE.is("a full one's copy", x.copy(0), 1);
        DUE.is("a full one's copy is full", x.begin(1, 0, READ, 0, 0), Bench.FULL);
        x.history(Bench.CELL, 0);
        for (int c = 0; c < 10; c++) {
            DUE.is("another one has 10 of its own", Bench.done(x, 2, 3, READ, 0, 0, 0), c);
        }
        DUE.is("another one's eleventh", x.begin(2, 0, READ, 0, 0), Bench.FULL);
    }

    private static void ticksAreOneByOne() {
        HistoryCourt x = Bench.with(Bench.CELL);
        DUE.is("TICKS: none at first", x.about(0, 3), 0);
        x.begin(0, 0, READ, 0, 0);
        DUE.is("TICKS: the first is 1", x.call(0, 0, 2), 1);
        x.begin(0, 1, READ, 0, 0);
        DUE.is("TICKS: each BEGIN is one", x.call(0, 1, 2), 2);
        DUE.is("TICKS: each ANSWER is one", x.answer(0, 0, 0), 3);
        DUE.is("TICKS: at which it was ANSWERED", x.call(0, 0, 3), 3);
        x.alter(0, 0, 5);
        x.judge(0, STRICT);
        x.least(0, STRICT);
        x.copy(0);
        DUE.is("TICKS: no other call is one", x.about(0, 3), 3);
        DUE.is("TICKS: go on", x.answer(0, 1, 0), 4);
    }

    private static void ticksOfEachHistory() {
        HistoryCourt x = Bench.withCalls(2);
        x.history(Bench.CELL, 0);
        x.copy(0);
        x.begin(1, 0, READ, 0, 0);
        DUE.is("TICKS of one are its own", x.call(1, 0, 2), 1);
        x.begin(2, 0, READ, 0, 0);
        DUE.is("TICKS of a copy go on", x.call(2, 2, 2), 5);
        DUE.is("TICKS of the other stay", x.about(0, 3), 4);
    }

    private static void twentyTicks() {
        HistoryCourt x = Bench.withCalls(10);
        DUE.is("TICKS: 20 with ten CALLS", x.about(0, 3), 20);
        DUE.is("TICKS: the last BEGIN", x.call(0, 9, 2), 19);
        DUE.is("TICKS: the last ANSWER", x.call(0, 9, 3), 20);
        for (int rule = 0; rule < 3; rule++) {
            DUE.is("AHEAD, the first of the last", x.ahead(0, rule, 0, 9), 1);
            DUE.is("AHEAD, the last but one of the last", x.ahead(0, rule, 8, 9), 1);
            DUE.is("AHEAD, not the last of the first", x.ahead(0, rule, 9, 0), 0);
        }
    }

    private static void oneOpenCallOfACaller() {
        for (int caller = 0; caller < 4; caller++) {
            HistoryCourt x = Bench.with(Bench.CELL);
            x.begin(0, caller, READ, 0, 0);
            DUE.is("a second OPEN one", x.begin(0, caller, READ, 0, 0), Bench.STATE);
            x.answer(0, 0, 0);
            DUE.is("a next one", x.begin(0, caller, READ, 0, 0), 1);
            DUE.is("a second OPEN one again", x.begin(0, caller, READ, 0, 0), Bench.STATE);
        }
        HistoryCourt x = Bench.with(Bench.CELL);
        for (int caller = 0; caller < 4; caller++) {
            DUE.is("each CALLER has one", x.begin(0, caller, READ, 0, 0), caller);
        }
        DUE.is("four are OPEN", x.about(0, 2), 4);
    }

    private static void openCallsOfEachHistory() {
        HistoryCourt x = Bench.withHistories(2);
        x.begin(0, 2, READ, 0, 0);
        DUE.is("OPEN in another HISTORY", x.begin(1, 2, READ, 0, 0), 0);
        x.copy(0);
        DUE.is("OPEN in the copy, too", x.begin(2, 2, READ, 0, 0), Bench.STATE);
        x.answer(2, 0, 0);
        DUE.is("OPEN in the copy no more", x.begin(2, 2, READ, 0, 0), 1);
        DUE.is("OPEN in the other still", x.begin(0, 2, READ, 0, 0), Bench.STATE);
    }

    private static void strictByTheNextTick() {
        HistoryCourt x = Bench.with(Bench.CELL);
        x.begin(0, 0, READ, 0, 0);
        x.answer(0, 0, 0);
        x.begin(0, 1, READ, 0, 0);
        x.begin(0, 2, READ, 0, 0);
        x.answer(0, 1, 0);
        DUE.is("STRICT: ANSWERED at 2, BEGAN at 3", x.ahead(0, STRICT, 0, 1), 1);
        DUE.is("STRICT: ANSWERED at 2, BEGAN at 4", x.ahead(0, STRICT, 0, 2), 1);
        DUE.is("STRICT: ANSWERED at 5, BEGAN at 4", x.ahead(0, STRICT, 1, 2), 0);
        DUE.is("STRICT: not the other way", x.ahead(0, STRICT, 1, 0), 0);
    }

    private static void openIsAheadOfNone() {
        HistoryCourt x = Bench.with(Bench.CELL);
        x.begin(0, 0, READ, 0, 0);
        Bench.done(x, 0, 1, READ, 0, 0, 0);
        x.begin(0, 2, READ, 0, 0);
        for (int rule = 0; rule < 3; rule++) {
            for (int y = 0; y < 3; y++) {
                DUE.is("an OPEN one is AHEAD of none", x.ahead(0, rule, 0, y), 0);
                DUE.is("an OPEN one is AHEAD of none", x.ahead(0, rule, 2, y), 0);
            }
        }
        DUE.is("one may be AHEAD of an OPEN one", x.ahead(0, STRICT, 1, 2), 1);
    }

    private static void noneIsAheadOfItself() {
        HistoryCourt x = Bench.withCalls(2);
        for (int rule = 0; rule < 3; rule++) {
            DUE.is("of itself", x.ahead(0, rule, 0, 0), 0);
            DUE.is("of itself", x.ahead(0, rule, 1, 1), 0);
        }
    }

    /** x is ANSWERED at 2, y BEGAN at 3: t can be 2 alone. */
    private static void quietAtTheTickOfTheAnswer() {
        HistoryCourt x = Bench.with(Bench.CELL);
        Bench.done(x, 0, 0, READ, 0, 0, 0);
        x.begin(0, 1, READ, 0, 0);
        DUE.is("QUIET: t is that of the answer", x.ahead(0, QUIET, 0, 1), 1);
    }

    /** CALL 0 is under way till 4, the last TICK below that at which CALL 2 BEGAN. */
    private static void quietAtTheLastTickBelow() {
        HistoryCourt x = Bench.with(Bench.CELL);
        x.begin(0, 0, READ, 0, 0);
        Bench.done(x, 0, 1, READ, 0, 0, 0);
        x.answer(0, 0, 0);
        x.begin(0, 2, READ, 0, 0);
        DUE.is("QUIET: t is the last below the BEGIN", x.ahead(0, QUIET, 1, 2), 1);
        HistoryCourt y = Bench.with(Bench.CELL);
        y.begin(0, 0, READ, 0, 0);
        Bench.done(y, 0, 1, READ, 0, 0, 0);
        y.begin(0, 2, READ, 0, 0);
        y.answer(0, 0, 0);
        DUE.is("QUIET: ANSWERED a TICK too late", y.ahead(0, QUIET, 1, 2), 0);
        DUE.is("STRICT all the same", y.ahead(0, STRICT, 1, 2), 1);
    }

    /** It was quiet at 2, ahead of the answer of CALL 2, and never since. */
    private static void quietOnlyFromTheAnswerOn() {
        HistoryCourt x = Bench.with(Bench.CELL);
        Bench.done(x, 0, 0, READ, 0, 0, 0);
        x.begin(0, 1, READ, 0, 0);
        Bench.done(x, 0, 2, READ, 0, 0, 0);
        x.begin(0, 3, READ, 0, 0);
        DUE.is("QUIET: t not ahead of the answer", x.ahead(0, QUIET, 2, 3), 0);
        DUE.is("QUIET: t between", x.ahead(0, QUIET, 0, 3), 1);
    }

    /** It is quiet at 6, but CALL 2 BEGAN at 4. */
    private static void quietOnlyBelowTheBegin() {
        HistoryCourt x = Bench.with(Bench.CELL);
        x.begin(0, 0, READ, 0, 0);
        Bench.done(x, 0, 1, READ, 0, 0, 0);
        x.begin(0, 2, READ, 0, 0);
        x.answer(0, 0, 0);
        x.answer(0, 2, 0);
        x.begin(0, 3, READ, 0, 0);
        DUE.is("QUIET: t not behind the BEGIN", x.ahead(0, QUIET, 1, 2), 0);
        DUE.is("QUIET: t is 6", x.ahead(0, QUIET, 1, 3), 1);
        DUE.is("QUIET: t is 6", x.ahead(0, QUIET, 0, 3), 1);
        DUE.is("QUIET: t is 6", x.ahead(0, QUIET, 2, 3), 1);
    }

    private static void quietNeverWithAnOpenOne() {
        HistoryCourt x = Bench.with(Bench.CELL);
        x.begin(0, 0, READ, 0, 0);
        for (int c = 1; c < 10; c++) {
            Bench.done(x, 0, 1 + c % 3, READ, 0, 0, 0);
        }
        for (int a = 1; a < 10; a++) {
            for (int b = a + 1; b < 10; b++) {
                DUE.is("QUIET: with an OPEN one", x.ahead(0, QUIET, a, b), (b - a) % 3 == 0 ? 1 : 0);
            }
        }
        x.answer(0, 0, 0);
        DUE.is("QUIET: ANSWERED behind all", x.ahead(0, QUIET, 1, 9), 0);
    }

    private static void quietOfOneCaller() {
        HistoryCourt x = Bench.with(Bench.CELL);
        x.begin(0, 0, READ, 0, 0);
        Bench.done(x, 0, 1, READ, 0, 0, 0);
        x.begin(0, 1, READ, 0, 0);
        DUE.is("QUIET: one CALLER, never quiet", x.ahead(0, QUIET, 1, 2), 1);
    }

    private static void byCallerOfOneCaller() {
        HistoryCourt x = Bench.with(Bench.CELL);
        Bench.done(x, 0, 0, READ, 0, 0, 0);
        Bench.done(x, 0, 1, READ, 0, 0, 0);
        x.begin(0, 0, READ, 0, 0);
        DUE.is("BY CALLER: another CALLER", x.ahead(0, BY_CALLER, 0, 1), 0);
        DUE.is("BY CALLER: one CALLER", x.ahead(0, BY_CALLER, 0, 2), 1);
        DUE.is("BY CALLER: not the other way", x.ahead(0, BY_CALLER, 2, 0), 0);
    }

    private static void byCallerOfEachCaller() {
        for (int one = 0; one < 4; one++) {
            for (int other = 0; other < 4; other++) {
                HistoryCourt x = Bench.with(Bench.CELL);
                Bench.done(x, 0, one, READ, 0, 0, 0);
                x.begin(0, other, READ, 0, 0);
                DUE.is("BY CALLER: " + one + " and " + other, x.ahead(0, BY_CALLER, 0, 1), one == other ? 1 : 0);
            }
        }
    }

    private static void orderOfNoCalls() {
        for (int kind = 0; kind < 7; kind++) {
            HistoryCourt x = Bench.with(kind);
            DUE.is("no CALLS: TAKEN by all RULES", x.rules(0), 7);
            for (int rule = 0; rule < 3; rule++) {
                DUE.is("no CALLS: TAKEN", x.judge(0, rule), 1);
                DUE.is("no CALLS: one ORDER", x.orders(0, rule), 1);
                DUE.is("no CALLS: no place", x.first(0, rule, 0), Bench.NONE);
                DUE.is("no CALLS: no LEAST PART", x.least(0, rule), 0);
                DUE.is("no CALLS: the empty ROW", x.check(0, rule), 100);
            }
        }
    }

    private static void orderWithAndWithoutOpenOnes() {
        long[] want = {1, 2, 5, 16, 65};
        for (int open = 0; open <= 4; open++) {
            HistoryCourt x = Bench.with(Bench.CELL);
            for (int caller = 0; caller < open; caller++) {
                x.begin(0, caller, WRITE, caller, 0);
            }
            for (int rule = 0; rule < 3; rule++) {
                DUE.is("some of " + open + " OPEN ones", x.orders(0, rule), want[open]);
                DUE.is("none of " + open + " OPEN ones is FIRST", x.first(0, rule, 0), Bench.NONE);
            }
        }
    }

    private static void orderHasAllAnsweredOnes() {
        HistoryCourt x = Bench.with(Bench.CELL);
        x.begin(0, 0, READ, 0, 0);
        x.begin(0, 1, READ, 0, 0);
        x.begin(0, 2, READ, 0, 0);
        x.answer(0, 0, 0);
        x.answer(0, 1, 0);
        DUE.is("both: 2 rows, the OPEN one nowhere or at 3 places", x.orders(0, STRICT), 8);
        DUE.is("none of them", Bench.checkRow(x, STRICT), 0);
        DUE.is("one of them", Bench.checkRow(x, STRICT, 1), 1);
        DUE.is("one of them and the OPEN one", Bench.checkRow(x, STRICT, 1, 2), 2);
        DUE.is("one of them twice", Bench.checkRow(x, STRICT, 1, 1), 1);
        DUE.is("both", Bench.checkRow(x, STRICT, 1, 0), 100);
        DUE.is("both and the OPEN one", Bench.checkRow(x, STRICT, 2, 1, 0), 100);
        DUE.is("both and the OPEN one twice", Bench.checkRow(x, STRICT, 2, 1, 0, 2), 3);
    }

    /** Ended by the ANSWERED one, or with OPEN ones behind it, which have lesser numbers. */
    private static void firstIsTheShorterOne() {
        HistoryCourt x = Bench.with(Bench.CELL);
        x.begin(0, 0, WRITE, 1, 0);
        x.begin(0, 1, WRITE, 2, 0);
        Bench.done(x, 0, 2, READ, 0, 0, 0);
        DUE.is("FIRST: OPEN ones ahead would change the READ", x.first(0, STRICT, 0), 2);
        DUE.is("FIRST: no CALL there", x.first(0, STRICT, 1), Bench.NONE);
    }

    private static void firstIsTheLesserOne() {
        HistoryCourt x = Bench.with(Bench.CELL);
        x.begin(0, 0, READ, 1, 0);
        x.begin(0, 1, READ, 2, 0);
        Bench.done(x, 0, 2, READ, 0, 0, 0);
        DUE.is("FIRST: an OPEN one with the least number", x.first(0, STRICT, 0), 0);
        DUE.is("FIRST: then the next", x.first(0, STRICT, 1), 1);
        DUE.is("FIRST: then the ANSWERED one", x.first(0, STRICT, 2), 2);
        DUE.is("FIRST: no CALL there", x.first(0, STRICT, 3), Bench.NONE);
    }

    private static void firstOfTen() {
        HistoryCourt x = Bench.with(Bench.COUNTER);
        int[] want = {3, 2, 1, 0, 7, 6, 5, 4, 9, 8};
        for (int c = 0; c < 10; c++) {
            Bench.done(x, 0, c % 4, 1, 1, 0, 0);
        }
        for (int i = 0; i < 10; i++) {
            x.alter(0, want[i], i + 1);
        }
        for (int i = 0; i < 10; i++) {
            DUE.is("FIRST of ten, place " + i, x.first(0, BY_CALLER, i), want[i]);
        }
        DUE.is("one ORDER of ten", x.orders(0, BY_CALLER), 1);
        DUE.is("none of ten", x.orders(0, STRICT), 0);
    }

    private static void leastOfOneCall() {
        HistoryCourt x = Bench.with(Bench.CELL);
        Bench.done(x, 0, 0, READ, 0, 0, 1);
        for (int rule = 0; rule < 3; rule++) {
            DUE.is("LEAST PART: one CALL", x.least(0, rule), 1);
            DUE.is("LEAST PART: that CALL", x.part(0), 0);
        }
        x.alter(0, 0, 0);
        DUE.is("LEAST PART: TAKEN", x.least(0, STRICT), 0);
    }

    private static void leastLeavesOutOpenOnes() {
        HistoryCourt x = Bench.with(Bench.CELL);
        x.begin(0, 0, WRITE, 7, 0);
        x.begin(0, 1, WRITE, 8, 0);
        Bench.done(x, 0, 2, READ, 0, 0, 9);
        x.begin(0, 3, WRITE, 9, 0);
        DUE.is("LEAST PART: without OPEN ones", x.least(0, STRICT), 1);
        DUE.is("LEAST PART: the READ", x.part(0), 2);
    }

    /** Each CALL is a fault of its own: what is left is the one with the greatest number. */
    private static void leastFromTheLeastNumberOn() {
        HistoryCourt x = Bench.withCalls(10);
        for (int c = 0; c < 10; c++) {
            x.alter(0, c, 1 + c);
        }
        for (int rule = 0; rule < 3; rule++) {
            DUE.is("LEAST PART: from the least number on", x.least(0, rule), 1);
            DUE.is("LEAST PART: the last is left", x.part(0), 9);
        }
    }

    /** Without CALL 0 what is left is TAKEN, till CALL 1 is left out: it goes in the second round. */
    private static void leastGoesRoundAgain() {
        HistoryCourt x = Bench.with(Bench.COUNTER);
        Bench.done(x, 0, 0, 1, 5, 0, 5);
        Bench.done(x, 0, 0, 1, 1, 0, 1);
        Bench.done(x, 0, 0, READ, 0, 0, 1);
        for (int rule = 0; rule < 3; rule++) {
            DUE.is("LEAST PART: a second round", x.least(0, rule), 1);
            DUE.is("LEAST PART: a second round", x.part(0), 2);
        }
    }

    /**
     * A MACHINE whose state has a bit for each of the ACTS 0, 1, 2 that came; CALLS 0, 1, 2 are those. CALL 3 is of
     * ACT 3 and was answered with 1, as it is in some states alone.
     */
    private static HistoryCourt explainedIn(int... states) {
        HistoryCourt x = Bench.withMachines(1);
        for (int state = 0; state < 8; state++) {
            for (int act = 0; act < 3; act++) {
                x.row(0, state, act, 0, state | 1 << act);
            }
            x.row(0, state, 3, 0, state);
        }
        for (int state : states) {
            x.row(0, state, 3, 1, state);
        }
        x.history(Bench.MACHINE, 0);
        for (int act = 0; act < 4; act++) {
            Bench.done(x, 0, 0, act, 0, 0, act == 3 ? 1 : 0);
        }
        return x;
    }

    /** CALL 2 can be left out, then CALL 1, then CALL 0: each in a round of its own. */
    private static void leastGoesRoundTillNoneCan() {
        HistoryCourt x = explainedIn(2, 5, 6);
        for (int rule = 0; rule < 3; rule++) {
            DUE.is("LEAST PART: three rounds", x.least(0, rule), 1);
            DUE.is("LEAST PART: three rounds", x.part(0), 3);
        }
    }

    /** Behind CALL 1, which is left out, CALL 2 comes, not CALL 0 again: then CALL 0 can not be left out. */
    private static void leastGoesOnBehindOneLeftOut() {
        HistoryCourt x = explainedIn(0, 6);
        for (int rule = 0; rule < 3; rule++) {
            DUE.is("LEAST PART: one round to its end", x.least(0, rule), 2);
            DUE.is("LEAST PART: CALL 0 is left", x.part(0), 0);
            DUE.is("LEAST PART: CALL 3 is left", x.part(1), 3);
        }
    }

    /** CALLS 0 and 2 are left out; 1 and 3 are left, and 1 is AHEAD of 3 by the TICKS they had. */
    private static void leastKeepsNumbersAndTicks() {
        HistoryCourt x = Bench.with(Bench.CELL);
        Bench.done(x, 0, 0, READ, 0, 0, 0);
        Bench.done(x, 0, 1, WRITE, 5, 0, 0);
        Bench.done(x, 0, 2, READ, 0, 0, 0);
        Bench.done(x, 0, 3, READ, 0, 0, 0);
        DUE.is("LEAST PART: two", x.least(0, STRICT), 2);
        DUE.is("LEAST PART: numbers stay", x.part(0), 1);
        DUE.is("LEAST PART: numbers stay", x.part(1), 3);
        DUE.is("a PART of it changes it not", x.about(0, 1), 4);
    }

    /** CALL 0 is under way all the time, so that it is never quiet; its answer is a fault of its own. */
    private static void partCountsAloneForQuiet() {
        HistoryCourt x = Bench.with(Bench.CELL);
        x.begin(0, 2, READ, 0, 0);
        Bench.done(x, 0, 0, WRITE, 5, 0, 0);
        Bench.done(x, 0, 1, READ, 0, 0, 0);
        DUE.is("QUIET: TAKEN while CALL 0 is OPEN", x.judge(0, QUIET), 1);
        DUE.is("QUIET: so it has no LEAST PART", x.least(0, QUIET), 0);
        x.answer(0, 0, 7);
        DUE.is("QUIET: without CALL 0 it is quiet", x.least(0, QUIET), 2);
        DUE.is("QUIET: the WRITE", x.part(0), 1);
        DUE.is("QUIET: the READ", x.part(1), 2);
        DUE.is("BY CALLER: the WRITE and the READ are none", x.least(0, BY_CALLER), 1);
        DUE.is("BY CALLER: CALL 0", x.part(0), 0);
    }

    private static void apartCountsAloneForQuiet() {
        for (int other = 0; other < 4; other++) {
            HistoryCourt x = Bench.with(Bench.MAP);
            x.begin(0, 2, READ, other, 0);
            Bench.done(x, 0, 0, WRITE, 1, 5, 0);
            Bench.done(x, 0, 1, READ, 1, 0, 0);
            DUE.is("QUIET: as a whole", x.judge(0, QUIET), 1);
            DUE.is("QUIET: KEY 1 alone, with an OPEN one of KEY " + other, x.apart(0, QUIET, 1), other == 1 ? 1 : 0);
            DUE.is("STRICT: KEY 1 alone", x.apart(0, STRICT, 1), 0);
            DUE.is("BY CALLER: KEY 1 alone", x.apart(0, BY_CALLER, 1), 1);
        }
    }

    /** What least() and apart() have looked at does not change AHEAD of the whole. */
    private static void aheadCountsAllForQuiet() {
        HistoryCourt x = Bench.with(Bench.MAP);
        x.begin(0, 2, READ, 3, 0);
        Bench.done(x, 0, 0, WRITE, 1, 5, 0);
        Bench.done(x, 0, 1, READ, 1, 0, 0);
        x.apart(0, QUIET, 1);
        x.least(0, QUIET);
        DUE.is("QUIET: all CALLS count", x.ahead(0, QUIET, 1, 2), 0);
    }
}
