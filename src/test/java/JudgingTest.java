/** Promises 5 and 8 to 22: edges that RangesTest, HistoriesTest and NothingChangesTest do not have. */
public final class JudgingTest {
    private static final int STRICT = Bench.STRICT, QUIET = Bench.QUIET, BY_CALLER = Bench.BY_CALLER;
    private static final int READ = Bench.READ, WRITE = Bench.WRITE, SWAP = Bench.SWAP;

    private static final Due DUE = new Due();

    public static void main(String[] args) {
        copyOfAnEmptyOne();
        copyOfAFullOne();
        copyHasAllOfEachCall();
        statusAtFirst();
        statusOfTheLatest();
        othersLeaveTheStatus();
        refusedOthersLeaveTheStatus();
        aboutOfNoneAndOfAll();
        mostOrders();
        judgeOfTen();
        leastOfTakenLeavesNoPart();
        partOfTheLatestLeast();
        partStaysWhenTheHistoryGoesOn();
        fillsOfATakenOne();
        fillsOfOnceEach();
        fillsRiseWithSign();
        fillsOfEachRule();
        fillOfTheLatestFills();
        fillStaysWhenTheCallIsAnswered();
        apartOfAFullMap();
        apartOfEachKey();
        rulesAsBits();
        DUE.end();
    }

    private static void copyOfAnEmptyOne() {
        for (int kind = 0; kind < 7; kind++) {
            HistoryCourt x = Bench.with(kind);
            DUE.is("copy of an empty one", x.copy(0), 1);
            DUE.is("its kind", x.about(1, 0), kind);
            DUE.is("its CALLS", x.about(1, 1), 0);
            DUE.is("its TICKS", x.about(1, 3), 0);
            DUE.is("its first CALL", x.begin(1, 0, 0, 0, 0), 0);
            DUE.is("the other one stays empty", x.about(0, 1), 0);
        }
    }

    private static void copyOfAFullOne() {
        HistoryCourt x = Bench.withCalls(10);
        x.copy(0);
        for (int c = 0; c < 10; c++) {
            for (int what = 0; what < 4; what++) {
                DUE.is("CALL " + c + " of the copy, " + what, x.call(1, c, what), x.call(0, c, what));
            }
        }
        x.alter(1, 9, 3);
        DUE.is("the other one's last answer stays", x.answered(0, 9), 0);
        x.alter(0, 0, 4);
        DUE.is("the copy's first answer stays", x.answered(1, 0), 0);
    }

    /** An answer of the copy hangs on act, a and b of each of its CALLS. */
    private static void copyHasAllOfEachCall() {
        HistoryCourt x = Bench.with(Bench.MAP);
        Bench.done(x, 0, 1, WRITE, 3, -7, 0);
        Bench.done(x, 0, 2, SWAP, 3, 0xFFF90004, 1);
        x.begin(0, 3, READ, 3, 0);
        x.copy(0);
        DUE.is("the copy's answers", x.fills(1, BY_CALLER, 2), 3);
        int[] want = {-7, 0, 4};
        for (int i = 0; i < 3; i++) {
            DUE.is("the copy's answer " + i, x.fill(i), want[i]);
        }
        x.answer(1, 2, 4);
        DUE.is("the copy is TAKEN", x.rules(1), 7);
        DUE.is("the other one's is OPEN", x.call(0, 2, 3), 0);
    }

    private static void statusAtFirst() {
        DUE.is("status: 0 at first", new HistoryCourt().status(), 0);
    }

    private static void statusOfTheLatest() {
        HistoryCourt x = Bench.withCalls(1);
        x.begin(0, 1, READ, 0, 0);
        x.alter(0, 1, 3);
        DUE.is("alter: STATE", x.status(), Bench.STATE);
        x.answered(0, 2);
        DUE.is("answered: NONE", x.status(), Bench.NONE);
        x.alter(0, 0, 0);
        DUE.is("alter: 0", x.status(), 0);
        x.answered(0, 1);
        DUE.is("answered: STATE", x.status(), Bench.STATE);
        DUE.is("asked twice", x.status(), Bench.STATE);
        x.answered(0, 0);
        DUE.is("answered: 0", x.status(), 0);
        x.fill(0);
        DUE.is("fill: NONE", x.status(), Bench.NONE);
        x.fills(0, STRICT, 1);
        DUE.is("fills leaves it", x.status(), Bench.NONE);
        x.fill(0);
        DUE.is("fill: 0", x.status(), 0);
    }

    private static void othersLeaveTheStatus() {
        HistoryCourt x = Bench.with(Bench.MAP);
        x.answered(0, 0);
        x.machine();
        x.row(0, 0, 0, 0, 0);
        x.history(Bench.MACHINE, 0);
        x.copy(0);
        x.begin(0, 0, 0, 0, 0);
        x.fills(0, STRICT, 0);
        x.answer(0, 0, 0);
        x.call(0, 0, 0);
        x.about(0, 0);
        x.ahead(0, 0, 0, 0);
        x.judge(0, 0);
        x.first(0, 0, 0);
        x.orders(0, 0);
        x.least(0, 0);
        x.part(0);
        x.apart(0, 0, 0);
        x.rules(0);
        x.say(0);
        x.check(0, 0);
        DUE.is("status: NONE still", x.status(), Bench.NONE);
    }

    private static void refusedOthersLeaveTheStatus() {
        HistoryCourt x = Bench.with(Bench.CELL);
        x.row(4, 0, 0, 0, 0);
        x.history(7, 0);
        x.copy(5);
        x.begin(0, 4, 0, 0, 0);
        x.answer(0, 0, 0);
        x.call(0, 0, 0);
        x.about(0, 4);
        x.ahead(0, 0, 0, 0);
        x.judge(0, 3);
        x.first(0, 0, 0);
        x.orders(0, 3);
        x.least(0, 3);
        x.part(0);
        x.fills(0, 0, 0);
        x.apart(0, 0, 0);
        x.rules(1);
        x.say(10);
        x.check(0, 3);
        DUE.is("status: 0 still", x.status(), 0);
    }

    private static void aboutOfNoneAndOfAll() {
        HistoryCourt x = Bench.withCalls(7);
        int[] want = {Bench.CELL, 7, 0, 14};
        for (int what = 0; what < 4; what++) {
            DUE.is("none is OPEN, " + what, x.about(0, what), want[what]);
        }
        for (int caller = 0; caller < 3; caller++) {
            x.begin(0, caller, READ, 0, 0);
        }
        int[] then = {Bench.CELL, 10, 3, 17};
        for (int what = 0; what < 4; what++) {
            DUE.is("three of ten are OPEN, " + what, x.about(0, what), then[what]);
        }
    }

    /** The most ORDERS that ten CALLS can have: six ANSWERED ones and four OPEN ones of four CALLERS. */
    private static void mostOrders() {
        HistoryCourt x = Bench.with(Bench.CELL);
        for (int c = 0; c < 6; c++) {
            Bench.done(x, 0, c % 4, WRITE, c, 0, 0);
        }
        for (int caller = 0; caller < 4; caller++) {
            x.begin(0, caller, WRITE, 9, 0);
        }
        DUE.is("orders BY CALLER", x.orders(0, BY_CALLER), rowsByCaller(new int[] {2, 2, 1, 1}));
        DUE.is("orders STRICT: six, then some of four OPEN ones", x.orders(0, STRICT), 65);
    }

    /** How many rows have the given numbers of CALLS of each CALLER, and of each one more or not. */
    private static long rowsByCaller(int[] answered) {
        long rows = 0;
        for (int with = 0; with < 16; with++) {
            int[] left = answered.clone();
            for (int caller = 0; caller < 4; caller++) {
                left[caller] += with >> caller & 1;
            }
            rows += merges(left);
        }
        return rows;
    }

    private static long merges(int[] left) {
        long ways = 0;
        boolean isEmpty = true;
        for (int caller = 0; caller < 4; caller++) {
            if (left[caller] > 0) {
                isEmpty = false;
                left[caller]--;
                ways += merges(left);
                left[caller]++;
            }
        }
        return isEmpty ? 1 : ways;
    }

    private static void judgeOfTen() {
        for (int kind = 0; kind < 7; kind++) {
            HistoryCourt x = Bench.with(kind);
            int readOnly = kind == Bench.SET ? 2 : kind == Bench.QUEUE || kind == Bench.STACK ? 1 : 0;
            int answer = readOnly == 1 ? -1 : 0;
            for (int c = 0; c < 10; c++) {
                Bench.done(x, 0, c % 4, readOnly, 0, 0, answer);
            }
            DUE.is("ten of kind " + kind, x.rules(0), 7);
            DUE.is("ten of kind " + kind + ", BY CALLER", x.orders(0, BY_CALLER), 25200);
            x.alter(0, 9, 5);
            DUE.is("the tenth of kind " + kind + " is a fault", x.rules(0), 0);
            DUE.is("the tenth of kind " + kind + " is the LEAST PART", x.least(0, STRICT), 1);
            DUE.is("the tenth of kind " + kind, x.part(0), 9);
        }
    }

    private static void leastOfTakenLeavesNoPart() {
        HistoryCourt x = Bench.withCalls(1);
        x.alter(0, 0, 1);
        x.least(0, STRICT);
        DUE.is("part 0", x.part(0), 0);
        x.alter(0, 0, 0);
        DUE.is("TAKEN", x.least(0, STRICT), 0);
        DUE.is("no part", x.part(0), Bench.NONE);
    }

    private static void partOfTheLatestLeast() {
        HistoryCourt x = Bench.withCalls(2);
        x.alter(0, 0, 1);
        x.copy(0);
        x.alter(1, 0, 0);
        x.alter(1, 1, 1);
        x.least(0, STRICT);
        DUE.is("of HISTORY 0", x.part(0), 0);
        x.least(1, STRICT);
        DUE.is("of HISTORY 1", x.part(0), 1);
        x.judge(0, STRICT);
        x.rules(0);
        x.fills(0, STRICT, 0);
        DUE.is("others tell no part", x.part(0), 1);
    }

    private static void partStaysWhenTheHistoryGoesOn() {
        HistoryCourt x = Bench.withCalls(1);
        x.alter(0, 0, 1);
        x.least(0, STRICT);
        Bench.done(x, 0, 1, WRITE, 1, 0, 0);
        x.alter(0, 0, 0);
        DUE.is("told latest", x.part(0), 0);
        DUE.is("and no more", x.part(1), Bench.NONE);
    }

    /** One that is TAKEN has an ORDER with the OPEN CALL at the end. */
    private static void fillsOfATakenOne() {
        HistoryCourt x = Bench.withCalls(9);
        x.begin(0, 1, READ, 0, 0);
        DUE.is("behind nine", x.fills(0, STRICT, 9), 1);
        DUE.is("behind nine", x.fill(0), 0);
        x.alter(0, 4, 2);
        DUE.is("not TAKEN", x.fills(0, STRICT, 9), 0);
    }

    private static void fillsOfOnceEach() {
        HistoryCourt x = Bench.with(Bench.CELL);
        x.begin(0, 0, READ, 0, 0);
        for (int caller = 1; caller < 4; caller++) {
            x.begin(0, caller, WRITE, 5, 0);
        }
        DUE.is("0 and 5, by many ORDERS", x.fills(0, STRICT, 0), 2);
        DUE.is("0", x.fill(0), 0);
        DUE.is("5", x.fill(1), 5);
    }

    private static void fillsRiseWithSign() {
        HistoryCourt x = Bench.with(Bench.STACK);
        x.begin(0, 0, 1, 0, 0);
        x.begin(0, 1, 0, Bench.HIGH, 0);
        x.begin(0, 2, 0, Bench.LOW, 0);
        x.begin(0, 3, 0, 0, 0);
        DUE.is("of a TAKE", x.fills(0, STRICT, 0), 4);
        int[] want = {Bench.LOW, -1, 0, Bench.HIGH};
        for (int i = 0; i < 4; i++) {
            DUE.is("of a TAKE, " + i, x.fill(i), want[i]);
            DUE.is("its status", x.status(), 0);
        }
    }

    /** The READ began behind the WRITE's answer, while CALL 0 was under way. */
    private static void fillsOfEachRule() {
        HistoryCourt x = Bench.with(Bench.CELL);
        x.begin(0, 0, READ, 0, 0);
        Bench.done(x, 0, 1, WRITE, 5, 0, 0);
        x.begin(0, 2, READ, 0, 0);
        DUE.is("STRICT", x.fills(0, STRICT, 2), 1);
        DUE.is("STRICT: 5", x.fill(0), 5);
        DUE.is("QUIET", x.fills(0, QUIET, 2), 2);
        DUE.is("BY CALLER", x.fills(0, BY_CALLER, 2), 2);
        DUE.is("BY CALLER: 0", x.fill(0), 0);
        DUE.is("BY CALLER: 5", x.fill(1), 5);
    }

    private static void fillOfTheLatestFills() {
        HistoryCourt x = Bench.with(Bench.CELL);
        x.begin(0, 0, READ, 0, 0);
        x.begin(0, 1, WRITE, 5, 0);
        x.fills(0, STRICT, 0);
        DUE.is("5 of CALL 0", x.fill(1), 5);
        x.fills(0, STRICT, 1);
        DUE.is("0 of CALL 1", x.fill(0), 0);
        x.fill(1);
        DUE.is("no more of CALL 1", x.status(), Bench.NONE);
        x.copy(0);
        Bench.done(x, 1, 2, READ, 0, 0, 7);
        x.fills(1, STRICT, 0);
        x.fill(0);
        DUE.is("none, as it is not TAKEN", x.status(), Bench.NONE);
    }

    private static void fillStaysWhenTheCallIsAnswered() {
        HistoryCourt x = Bench.with(Bench.CELL);
        x.begin(0, 0, READ, 0, 0);
        x.begin(0, 1, WRITE, 5, 0);
        x.fills(0, STRICT, 0);
        x.answer(0, 0, 5);
        DUE.is("told latest", x.fill(1), 5);
        DUE.is("refused now", x.fills(0, STRICT, 0), Bench.STATE);
        DUE.is("told latest still", x.fill(0), 0);
        DUE.is("its status", x.status(), 0);
    }

    private static void apartOfAFullMap() {
        HistoryCourt x = Bench.with(Bench.MAP);
        for (int c = 0; c < 10; c++) {
            Bench.done(x, 0, c % 4, WRITE, c % 4, c, 0);
        }
        for (int key = 0; key < 4; key++) {
            for (int rule = 0; rule < 3; rule++) {
                DUE.is("ten, KEY " + key, x.apart(0, rule, key), 1);
            }
        }
        x.alter(0, 9, 1);
        for (int key = 0; key < 4; key++) {
            DUE.is("the tenth is a fault of KEY 1, KEY " + key, x.apart(0, STRICT, key), key == 1 ? 0 : 1);
        }
    }

    private static void apartOfEachKey() {
        for (int key = 0; key < 4; key++) {
            HistoryCourt x = Bench.with(Bench.MAP);
            Bench.done(x, 0, 0, READ, key, 0, 9);
            for (int other = 0; other < 4; other++) {
                DUE.is("a fault of KEY " + key + ", KEY " + other, x.apart(0, STRICT, other), other == key ? 0 : 1);
            }
            DUE.is("as a whole", x.judge(0, STRICT), 0);
        }
    }

    private static void rulesAsBits() {
        HistoryCourt x = Bench.with(Bench.CELL);
        x.begin(0, 2, READ, 0, 0);
        Bench.done(x, 0, 0, WRITE, 5, 0, 0);
        Bench.done(x, 0, 1, READ, 0, 0, 0);
        DUE.is("not STRICT", x.rules(0), 6);
        x.copy(0);
        x.alter(1, 2, 5);
        DUE.is("all", x.rules(1), 7);
        x.alter(1, 2, 6);
        DUE.is("none", x.rules(1), 0);
        HistoryCourt y = Bench.with(Bench.CELL);
        Bench.done(y, 0, 0, WRITE, 5, 0, 0);
        Bench.done(y, 0, 1, READ, 0, 0, 0);
        DUE.is("BY CALLER alone", y.rules(0), 4);
    }
}
