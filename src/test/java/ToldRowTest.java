/** Promises 23 and 24: each edge of THE ROW, and each fault at the first and at the last place. */
public final class ToldRowTest {
    private static final int STRICT = Bench.STRICT, QUIET = Bench.QUIET, BY_CALLER = Bench.BY_CALLER;
    private static final int READ = Bench.READ, WRITE = Bench.WRITE;

    private static final Due DUE = new Due();

    public static void main(String[] args) {
        emptyAtFirst();
        sayCountsToTen();
        sayTakesOneTwice();
        emptyBehindEachCheck();
        notEmptiedByNone();
        tenInAnOrder();
        tooFew();
        noSuchCall();
        standsAheadAlready();
        oneAheadIsMissing();
        oneAheadByEachRule();
        anotherAnswer();
        openOnesMayBeAnything();
        firstPlaceOfSeveral();
        ofEachHistory();
        DUE.end();
    }

    private static void emptyAtFirst() {
        DUE.is("an empty ROW, no CALLS", Bench.with(Bench.CELL).check(0, STRICT), 100);
        DUE.is("an empty ROW, one is due", Bench.withCalls(1).check(0, STRICT), 0);
        DUE.is("an empty ROW has none", new HistoryCourt().say(0), 1);
    }

    private static void sayCountsToTen() {
        HistoryCourt x = Bench.withCalls(10);
        for (int n = 0; n < 10; n++) {
            DUE.is("how many it has", x.say(n), n + 1);
        }
        DUE.is("it has 10", x.say(0), Bench.FULL);
        DUE.is("it has 10, still those", x.check(0, STRICT), 100);
        DUE.is("it has none then", x.say(0), 1);
    }

    private static void sayTakesOneTwice() {
        HistoryCourt x = Bench.withCalls(1);
        DUE.is("0", x.say(0), 1);
        DUE.is("0 again", x.say(0), 2);
        DUE.is("that is seen by check", x.check(0, STRICT), 1);
    }

    private static void emptyBehindEachCheck() {
        HistoryCourt x = Bench.withCalls(2);
        DUE.is("an ORDER", Bench.checkRow(x, STRICT, 0, 1), 100);
        DUE.is("empty behind an ORDER", x.say(0), 1);
        DUE.is("too few", x.check(0, STRICT), 1);
        DUE.is("empty behind too few", x.say(1), 1);
        DUE.is("a fault", x.check(0, STRICT), 0);
        DUE.is("empty behind a fault", x.say(1), 1);
    }

    private static void notEmptiedByNone() {
        HistoryCourt x = Bench.withCalls(2);
        x.say(0);
        for (int wrong : new int[] {-1, 3, Bench.LOW, Bench.HIGH}) {
            DUE.is("no such RULE", x.check(0, wrong), Bench.NONE);
            DUE.is("no such HISTORY", x.check(wrong, STRICT), Bench.NONE);
        }
        DUE.is("it has 0 still", x.say(1), 2);
        DUE.is("and is an ORDER", x.check(0, STRICT), 100);
    }

    private static void tenInAnOrder() {
        for (int rule = 0; rule < 3; rule++) {
            HistoryCourt x = Bench.withCalls(10);
            DUE.is("ten", Bench.checkRow(x, rule, 0, 1, 2, 3, 4, 5, 6, 7, 8, 9), 100);
            DUE.is("the last two the other way", Bench.checkRow(x, rule, 0, 1, 2, 3, 4, 5, 6, 7, 9, 8), 8);
            DUE.is("the first two the other way", Bench.checkRow(x, rule, 1, 0, 2, 3, 4, 5, 6, 7, 8, 9), 0);
            DUE.is("the last one twice", Bench.checkRow(x, rule, 0, 1, 2, 3, 4, 5, 6, 7, 8, 8), 9);
            x.alter(0, 9, 1);
            DUE.is("the last one's answer", Bench.checkRow(x, rule, 0, 1, 2, 3, 4, 5, 6, 7, 8, 9), 9);
        }
    }

    private static void tooFew() {
        HistoryCourt x = Bench.withCalls(10);
        for (int n = 0; n < 10; n++) {
            for (int c = 0; c < n; c++) {
                x.say(c);
            }
            DUE.is("no fault, but " + n + " of ten", x.check(0, STRICT), n);
        }
    }

    private static void noSuchCall() {
        HistoryCourt x = Bench.withCalls(1);
        x.begin(0, 1, READ, 0, 0);
        DUE.is("CALL 2 at 0", Bench.checkRow(x, STRICT, 2, 0), 0);
        DUE.is("CALL 2 at 1", Bench.checkRow(x, STRICT, 0, 2), 1);
        DUE.is("CALL 9 at 2", Bench.checkRow(x, STRICT, 0, 1, 9), 2);
        DUE.is("CALL 1 is there", Bench.checkRow(x, STRICT, 0, 1), 100);
        HistoryCourt none = Bench.with(Bench.CELL);
        DUE.is("no CALL is there", Bench.checkRow(none, STRICT, 0), 0);
    }

    private static void standsAheadAlready() {
        HistoryCourt x = Bench.withCalls(1);
        x.begin(0, 1, READ, 0, 0);
        DUE.is("an ANSWERED one twice", Bench.checkRow(x, STRICT, 0, 0), 1);
        DUE.is("an OPEN one twice", Bench.checkRow(x, STRICT, 0, 1, 1), 2);
        DUE.is("an ANSWERED one twice, not next to it", Bench.checkRow(x, STRICT, 0, 1, 0), 2);
    }

    private static void oneAheadIsMissing() {
        HistoryCourt x = Bench.withCalls(2);
        x.begin(0, 1, READ, 0, 0);
        DUE.is("it stands behind", Bench.checkRow(x, STRICT, 1, 0), 0);
        DUE.is("it stands nowhere", Bench.checkRow(x, STRICT, 1), 0);
        DUE.is("one of two ahead of an OPEN one", Bench.checkRow(x, STRICT, 0, 2, 1), 1);
        DUE.is("none of two ahead of an OPEN one", Bench.checkRow(x, STRICT, 2, 0, 1), 0);
        DUE.is("both", Bench.checkRow(x, STRICT, 0, 1, 2), 100);
        DUE.is("BY CALLER it may be anywhere", Bench.checkRow(x, BY_CALLER, 2, 0, 1), 100);
    }

    /** CALL 0 is under way at all times; 1 is answered ahead of 2, by another CALLER. */
    private static void oneAheadByEachRule() {
        HistoryCourt x = Bench.with(Bench.CELL);
        x.begin(0, 0, READ, 0, 0);
        Bench.done(x, 0, 1, READ, 0, 0, 0);
        Bench.done(x, 0, 2, READ, 0, 0, 0);
        DUE.is("STRICT", Bench.checkRow(x, STRICT, 2, 1), 0);
        DUE.is("QUIET, never quiet", Bench.checkRow(x, QUIET, 2, 1), 100);
        DUE.is("BY CALLER", Bench.checkRow(x, BY_CALLER, 2, 1), 100);
        HistoryCourt y = Bench.with(Bench.CELL);
        Bench.done(y, 0, 1, READ, 0, 0, 0);
        Bench.done(y, 0, 2, READ, 0, 0, 0);
        DUE.is("QUIET, quiet between", Bench.checkRow(y, QUIET, 1, 0), 0);
        DUE.is("QUIET, the other way", Bench.checkRow(y, QUIET, 0, 1), 100);
    }

    private static void anotherAnswer() {
        HistoryCourt x = Bench.with(Bench.CELL);
        Bench.done(x, 0, 0, WRITE, 5, 0, 0);
        Bench.done(x, 0, 1, READ, 0, 0, 5);
        DUE.is("by the WRITE ahead of it", Bench.checkRow(x, BY_CALLER, 0, 1), 100);
        DUE.is("the WRITE is not there yet", Bench.checkRow(x, BY_CALLER, 1, 0), 0);
        x.alter(0, 1, 4);
        DUE.is("another answer, at the last place", Bench.checkRow(x, BY_CALLER, 0, 1), 1);
        x.alter(0, 0, 1);
        DUE.is("another answer, at the first place", Bench.checkRow(x, BY_CALLER, 0, 1), 0);
    }

    private static void openOnesMayBeAnything() {
        HistoryCourt x = Bench.with(Bench.QUEUE);
        for (int caller = 0; caller < 4; caller++) {
            x.begin(0, caller, caller % 2, caller, 0);
        }
        DUE.is("none", Bench.checkRow(x, STRICT), 100);
        DUE.is("one", Bench.checkRow(x, STRICT, 3), 100);
        DUE.is("all", Bench.checkRow(x, STRICT, 3, 2, 1, 0), 100);
        DUE.is("all, and one again", Bench.checkRow(x, STRICT, 3, 2, 1, 0, 3), 4);
    }

    /** The first place counts, whatever the fault there is. */
    private static void firstPlaceOfSeveral() {
        HistoryCourt x = Bench.withCalls(3);
        x.alter(0, 1, 7);
        DUE.is("an answer ahead of one twice", Bench.checkRow(x, STRICT, 0, 1, 1, 9), 1);
        DUE.is("one twice ahead of none such", Bench.checkRow(x, STRICT, 0, 0, 9, 1), 1);
        DUE.is("none such ahead of an answer", Bench.checkRow(x, STRICT, 9, 0, 1, 1), 0);
        DUE.is("one missing ahead of an answer", Bench.checkRow(x, STRICT, 0, 2, 1), 1);
        DUE.is("two faults of one place", Bench.checkRow(x, STRICT, 1, 0), 0);
    }

    private static void ofEachHistory() {
        HistoryCourt x = Bench.withCalls(2);
        x.history(Bench.CELL, 0);
        Bench.done(x, 1, 0, READ, 0, 0, 0);
        x.say(0);
        DUE.is("of HISTORY 1 it is an ORDER", x.check(1, STRICT), 100);
        x.say(0);
        DUE.is("of HISTORY 0 it is too short", x.check(0, STRICT), 1);
    }
}
