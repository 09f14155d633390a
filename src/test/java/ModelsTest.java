/** Section 1 of the document: each sentence on a MODEL that names an edge has a test of its own. */
public final class ModelsTest {
    private static final int LOW = Bench.LOW, HIGH = Bench.HIGH;
    private static final int PUT = 0, TAKE = 1;
    private static final int ADD = 0, DROP = 1, HAS = 2;

    private static final Due DUE = new Due();

    public static void main(String[] args) {
        cellIsZeroAtFirst();
        cellHoldsAnyInt();
        cellSwaps();
        counterIsZeroAtFirst();
        counterWraps();
        lineIsEmptyAtFirst(Bench.QUEUE, "QUEUE");
        lineIsEmptyAtFirst(Bench.STACK, "STACK");
        lineIsEmptiedAndFilledAgain(Bench.QUEUE, "QUEUE");
        lineIsEmptiedAndFilledAgain(Bench.STACK, "STACK");
        lineHoldsAnyInt(Bench.QUEUE, "QUEUE");
        lineHoldsAnyInt(Bench.STACK, "STACK");
        tenInALine();
        firstAndLastOfALine();
        setIsEmptyAtFirst();
        setOfFirstAndLastMember();
        mapIsZeroAtFirst();
        mapKeysAreApart();
        mapWritesAllOfB();
        mapSwapsFromTheHighestBits();
        mapSwapsToTheLowestBits();
        mapSwapThatFailsChangesNothing();
        machineIsInZeroAtFirst();
        machineTableIsZeroTillTold();
        machineHasEightStates();
        machineTableToldTwice();
        machinesAreApart();
        machineTakesAnyAAndB();
        DUE.end();
    }

    private static int[] call(int act, int a, int b, int v) {
        return Bench.call(act, a, b, v);
    }

    /** So it goes; and with any other answer of the last CALL it does not. */
    private static void goes(String what, int kind, int[]... calls) {
        DUE.is(what, Bench.goesSo(kind, calls), 1);
        int[] last = calls[calls.length - 1];
        int v = last[3];
        for (int other : new int[] {v - 1, v + 1, v ^ LOW, v ^ 0x10000, v ^ 0x8000, ~v}) {
            last[3] = other;
            DUE.is(what + ", not " + other, Bench.goesSo(kind, calls), 0);
        }
        last[3] = v;
    }

    private static void cellIsZeroAtFirst() {
        goes("CELL: 0 at first", Bench.CELL, call(Bench.READ, 9, 9, 0));
        goes("CELL: 0 at first, to SWAP", Bench.CELL, call(Bench.SWAP, 0, 9, 1));
        goes("CELL: READ changes nothing", Bench.CELL, call(Bench.READ, 9, 9, 0), call(Bench.READ, 9, 9, 0));
    }

    private static void cellHoldsAnyInt() {
        for (int v : new int[] {LOW, -65536, -2, -1, 0, 1, 65535, HIGH}) {
            goes("CELL: WRITE answers 0", Bench.CELL, call(Bench.WRITE, v, 7, 0));
            goes("CELL: it is " + v, Bench.CELL, call(Bench.WRITE, v, 7, 0), call(Bench.READ, 0, 0, v));
            goes("CELL: SWAP to " + v, Bench.CELL, call(Bench.SWAP, 0, v, 1), call(Bench.READ, 0, 0, v));
        }
    }

    private static void cellSwaps() {
        for (int v : new int[] {LOW, -1, 1, HIGH}) {
            int[] write = call(Bench.WRITE, v, 0, 0);
            goes("CELL: SWAP if it is a", Bench.CELL, write, call(Bench.SWAP, v, 5, 1));
            goes("CELL: then it is b", Bench.CELL, write, call(Bench.SWAP, v, 5, 1), call(Bench.READ, 0, 0, 5));
            goes("CELL: not if it is more", Bench.CELL, write, call(Bench.SWAP, v - 1, 5, 0));
            goes("CELL: not if it is less", Bench.CELL, write, call(Bench.SWAP, v + 1, 5, 0));
            goes("CELL: then it stays", Bench.CELL, write, call(Bench.SWAP, v + 1, 5, 0), call(Bench.READ, 0, 0, v));
        }
        goes("CELL: SWAP to the same", Bench.CELL, call(Bench.SWAP, 0, 0, 1), call(Bench.READ, 0, 0, 0));
    }

    private static void counterIsZeroAtFirst() {
        goes("COUNTER: 0 at first", Bench.COUNTER, call(Bench.READ, 9, 9, 0));
        goes("COUNTER: ADD 0", Bench.COUNTER, call(1, 0, 9, 0));
        goes("COUNTER: READ adds nothing", Bench.COUNTER, call(Bench.READ, 9, 9, 0), call(1, 3, 0, 3));
        goes("COUNTER: its new value", Bench.COUNTER, call(1, 3, 0, 3), call(1, -5, 0, -2), call(Bench.READ, 0, 0, -2));
    }

    private static void counterWraps() {
        goes("COUNTER: the highest", Bench.COUNTER, call(1, HIGH - 1, 0, HIGH - 1), call(1, 1, 0, HIGH));
        goes("COUNTER: wraps up", Bench.COUNTER, call(1, HIGH, 0, HIGH), call(1, 1, 0, LOW));
        goes("COUNTER: wraps up, READ", Bench.COUNTER, call(1, HIGH, 0, HIGH), call(1, 1, 0, LOW), call(Bench.READ, 0, 0, LOW));
        goes("COUNTER: the lowest", Bench.COUNTER, call(1, LOW + 1, 0, LOW + 1), call(1, -1, 0, LOW));
        goes("COUNTER: wraps down", Bench.COUNTER, call(1, LOW, 0, LOW), call(1, -1, 0, HIGH));
        goes("COUNTER: LOW and LOW", Bench.COUNTER, call(1, LOW, 0, LOW), call(1, LOW, 0, 0));
        goes("COUNTER: HIGH and HIGH", Bench.COUNTER, call(1, HIGH, 0, HIGH), call(1, HIGH, 0, -2));
        goes("COUNTER: round and back", Bench.COUNTER, call(1, HIGH, 0, HIGH), call(1, 1, 0, LOW), call(1, -1, 0, HIGH));
    }

    private static void lineIsEmptyAtFirst(int kind, String name) {
        goes(name + ": TAKE of an empty one", kind, call(TAKE, 5, 5, -1));
        goes(name + ": empty stays empty", kind, call(TAKE, 5, 5, -1), call(TAKE, 5, 5, -1));
        goes(name + ": PUT behind such a TAKE", kind, call(TAKE, 5, 5, -1), call(PUT, 7, 5, 1));
        goes(name + ": the first PUT", kind, call(PUT, 7, 5, 1));
    }

    private static void lineIsEmptiedAndFilledAgain(int kind, String name) {
        int[] put = call(PUT, 7, 0, 1);
        int[] take = call(TAKE, 0, 0, 7);
        goes(name + ": the only one goes", kind, put, take);
        goes(name + ": then it is empty", kind, put, take, call(TAKE, 0, 0, -1));
        goes(name + ": and is filled again", kind, put, take, call(PUT, 8, 0, 1));
        goes(name + ": with another", kind, put, take, call(PUT, 8, 0, 1), call(TAKE, 0, 0, 8));
        goes(name + ": behind an empty TAKE", kind, put, take, call(TAKE, 0, 0, -1), call(PUT, 8, 0, 1), call(TAKE, 0, 0, 8));
    }

    private static void lineHoldsAnyInt(int kind, String name) {
        for (int v : new int[] {LOW, -2, -1, 0, 1, 16, HIGH}) {
            goes(name + ": " + v, kind, call(PUT, v, 0, 1), call(TAKE, 0, 0, v));
            goes(name + ": " + v + " counts", kind, call(PUT, v, 0, 1), call(PUT, v, 0, 2));
        }
        goes(name + ": a -1 that went", kind, call(PUT, -1, 0, 1), call(TAKE, 0, 0, -1), call(PUT, 3, 0, 1));
    }

    private static void tenInALine() {
        for (int kind = Bench.QUEUE; kind <= Bench.STACK; kind++) {
            int[][] puts = new int[10][];
            int[][] putsAndTake = new int[10][];
            for (int i = 0; i < 10; i++) {
                puts[i] = call(PUT, 100 + i, 0, i + 1);
                putsAndTake[i] = i < 9 ? puts[i] : call(TAKE, 0, 0, kind == Bench.QUEUE ? 100 : 108);
            }
            goes("ten PUTs, of kind " + kind, kind, puts);
            goes("nine PUTs and a TAKE, of kind " + kind, kind, putsAndTake);
        }
    }

    private static void firstAndLastOfALine() {
        int[] one = call(PUT, 1, 0, 1);
        int[] two = call(PUT, 2, 0, 2);
        goes("QUEUE: the first one goes", Bench.QUEUE, one, two, call(TAKE, 0, 0, 1));
        goes("QUEUE: then the next", Bench.QUEUE, one, two, call(TAKE, 0, 0, 1), call(TAKE, 0, 0, 2));
        goes("QUEUE: a behind all", Bench.QUEUE, one, two, call(TAKE, 0, 0, 1), call(PUT, 3, 0, 2), call(TAKE, 0, 0, 2));
        goes("STACK: the one that came last", Bench.STACK, one, two, call(TAKE, 0, 0, 2));
        goes("STACK: then the one ahead of it", Bench.STACK, one, two, call(TAKE, 0, 0, 2), call(TAKE, 0, 0, 1));
        goes("STACK: a new one is last", Bench.STACK, one, two, call(TAKE, 0, 0, 2), call(PUT, 3, 0, 2), call(TAKE, 0, 0, 3));
    }

    private static void setIsEmptyAtFirst() {
        for (int a = 0; a < 16; a++) {
            goes("SET: HAS not " + a, Bench.SET, call(HAS, a, 9, 0));
            goes("SET: DROP of none " + a, Bench.SET, call(DROP, a, 9, 0));
            goes("SET: ADD of a new one " + a, Bench.SET, call(ADD, a, 9, 1));
        }
    }

    private static void setOfFirstAndLastMember() {
        for (int a : new int[] {0, 1, 14, 15}) {
            int[] add = call(ADD, a, 0, 1);
            goes("SET: ADD again " + a, Bench.SET, add, call(ADD, a, 0, 0));
            goes("SET: HAS " + a, Bench.SET, add, call(HAS, a, 0, 1));
            goes("SET: HAS leaves it in " + a, Bench.SET, add, call(HAS, a, 0, 1), call(HAS, a, 0, 1));
            goes("SET: ADD again leaves it in " + a, Bench.SET, add, call(ADD, a, 0, 0), call(HAS, a, 0, 1));
            goes("SET: DROP " + a, Bench.SET, add, call(DROP, a, 0, 1));
            goes("SET: it is not in " + a, Bench.SET, add, call(DROP, a, 0, 1), call(DROP, a, 0, 0));
            goes("SET: DROP of none adds none " + a, Bench.SET, call(DROP, a, 0, 0), call(HAS, a, 0, 0));
            goes("SET: HAS adds none " + a, Bench.SET, call(HAS, a, 0, 0), call(ADD, a, 0, 1));
            goes("SET: the others are not in " + a, Bench.SET, add, call(HAS, 15 - a, 0, 0));
            goes("SET: the others stay " + a, Bench.SET, add, call(DROP, 15 - a, 0, 0), call(HAS, a, 0, 1));
        }
    }

    private static void mapIsZeroAtFirst() {
        for (int key = 0; key < 4; key++) {
            goes("MAP: 0 at first, KEY " + key, Bench.MAP, call(Bench.READ, key, 9, 0));
            goes("MAP: 0 at first, to SWAP, KEY " + key, Bench.MAP, call(Bench.SWAP, key, 5, 1));
        }
    }

    private static void mapKeysAreApart() {
        for (int key = 0; key < 4; key++) {
            int[] write = call(Bench.WRITE, key, 40 + key, 0);
            for (int other = 0; other < 4; other++) {
                goes("MAP: WRITE to " + key + ", READ of " + other, Bench.MAP, write,
                    call(Bench.READ, other, 0, other == key ? 40 + key : 0));
                goes("MAP: SWAP of " + key + ", READ of " + other, Bench.MAP, call(Bench.SWAP, key, 6, 1),
                    call(Bench.READ, other, 0, other == key ? 6 : 0));
            }
        }
        goes("MAP: all four", Bench.MAP, call(Bench.WRITE, 0, 1, 0), call(Bench.WRITE, 1, 2, 0), call(Bench.WRITE, 2, 3, 0),
            call(Bench.WRITE, 3, 4, 0), call(Bench.READ, 3, 0, 4), call(Bench.READ, 2, 0, 3), call(Bench.READ, 1, 0, 2),
            call(Bench.READ, 0, 0, 1));
    }

    private static void mapWritesAllOfB() {
        for (int v : new int[] {LOW, -65536, -1, 0, 32768, 65535, 65536, 0x12345678, HIGH}) {
            goes("MAP: WRITE answers 0", Bench.MAP, call(Bench.WRITE, 3, v, 0));
            goes("MAP: WRITE " + v, Bench.MAP, call(Bench.WRITE, 3, v, 0), call(Bench.READ, 3, 0, v));
        }
    }

    /** A WRITE, and a SWAP from the 16 bits h of it to 0: whether it swaps. */
    private static void swapFrom(int written, int h, int answer) {
        goes("MAP: " + written + ", SWAP from the bits " + Integer.toHexString(h), Bench.MAP,
            call(Bench.WRITE, 1, written, 0), call(Bench.SWAP, 1, h << 16, answer));
    }

    private static void mapSwapsFromTheHighestBits() {
        swapFrom(32767, 0x7FFF, 1);
        swapFrom(-32768, 0x8000, 1);
        swapFrom(-1, 0xFFFF, 1);
        swapFrom(1, 0x0001, 1);
        swapFrom(32768, 0x8000, 0);
        swapFrom(65535, 0xFFFF, 0);
        swapFrom(65536, 0x0000, 0);
        swapFrom(0x7FFF0000, 0x7FFF, 0);
        swapFrom(-32769, 0x7FFF, 0);
        swapFrom(LOW, 0x8000, 0);
        goes("MAP: the lowest bits are not looked at", Bench.MAP, call(Bench.WRITE, 1, 5, 0), call(Bench.SWAP, 1, 0x50005, 1));
        goes("MAP: nor is their sign", Bench.MAP, call(Bench.WRITE, 1, 5, 0), call(Bench.SWAP, 1, 0x5FFFF, 1));
    }

    private static void swapTo(int l, int then) {
        goes("MAP: SWAP to the bits " + Integer.toHexString(l), Bench.MAP, call(Bench.SWAP, 1, l, 1), call(Bench.READ, 1, 0, then));
        goes("MAP: and from them to 9", Bench.MAP, call(Bench.SWAP, 1, l, 1), call(Bench.SWAP, 1, l << 16 | 9, 1),
            call(Bench.READ, 1, 0, 9));
        goes("MAP: SWAP from -1 to the bits " + Integer.toHexString(l), Bench.MAP, call(Bench.WRITE, 1, -1, 0),
            call(Bench.SWAP, 1, 0xFFFF0000 | l, 1), call(Bench.READ, 1, 0, then));
    }

    private static void mapSwapsToTheLowestBits() {
        swapTo(0x0000, 0);
        swapTo(0x0001, 1);
        swapTo(0x7FFF, 32767);
        swapTo(0x8000, -32768);
        swapTo(0xFFFF, -1);
    }

    private static void mapSwapThatFailsChangesNothing() {
        goes("MAP: it stays as it was written", Bench.MAP, call(Bench.WRITE, 2, 65541, 0), call(Bench.SWAP, 2, 0x50007, 0),
            call(Bench.READ, 2, 0, 65541));
        goes("MAP: it stays 0", Bench.MAP, call(Bench.SWAP, 2, 0x50007, 0), call(Bench.READ, 2, 0, 0));
    }

    private static void machineIsInZeroAtFirst() {
        HistoryCourt x = Bench.withMachines(1);
        for (int state = 0; state < 8; state++) {
            x.row(0, state, 0, 50 + state, state);
        }
        x.history(Bench.MACHINE, 0);
        x.begin(0, 0, 0, 0, 0);
        DUE.is("MACHINE: in one state alone", x.fills(0, Bench.STRICT, 0), 1);
        DUE.is("MACHINE: in 0 at first", x.fill(0), 50);
    }

    private static void machineTableIsZeroTillTold() {
        for (int act = 0; act < 4; act++) {
            goes("MACHINE: answer 0 till told, ACT " + act, Bench.MACHINE, call(act, 0, 0, 0));
            for (int state = 1; state < 8; state++) {
                HistoryCourt x = Bench.withMachines(1);
                x.row(0, 0, 0, 7, state);
                x.history(Bench.MACHINE, 0);
                Bench.done(x, 0, 0, 0, 0, 0, 7);
                Bench.done(x, 0, 0, act == 0 ? 1 : act, 0, 0, 0);
                Bench.done(x, 0, 0, 0, 0, 0, 7);
                DUE.is("MACHINE: answer 0, next 0 till told, in " + state, x.judge(0, Bench.STRICT), 1);
            }
        }
    }

    /** Each state and ACT has an answer and a next state of its own; each is gone to and asked. */
    private static void machineHasEightStates() {
        for (int state = 0; state < 8; state++) {
            for (int act = 0; act < 4; act++) {
                HistoryCourt x = Bench.withMachines(1);
                for (int s = 0; s < 8; s++) {
                    for (int t = 0; t < 4; t++) {
                        x.row(0, s, t, 10 * s + t, (s + t + 1) % 8);
                    }
                }
                x.history(Bench.MACHINE, 0);
                for (int s = 0; s < state; s++) {
                    Bench.done(x, 0, 0, 0, 0, 0, 10 * s);
                }
                Bench.done(x, 0, 0, act, 0, 0, 10 * state + act);
                Bench.done(x, 0, 0, 0, 0, 0, 10 * ((state + act + 1) % 8));
                DUE.is("MACHINE: state " + state + ", ACT " + act, x.judge(0, Bench.STRICT), 1);
            }
        }
    }

    private static void machineTableToldTwice() {
        HistoryCourt x = Bench.withMachines(1);
        x.row(0, 0, 3, Bench.LOW, 7);
        x.row(0, 0, 3, Bench.HIGH, 1);
        x.row(0, 1, 0, 4, 0);
        x.history(Bench.MACHINE, 0);
        Bench.done(x, 0, 0, 3, 0, 0, Bench.HIGH);
        Bench.done(x, 0, 0, 0, 0, 0, 4);
        DUE.is("MACHINE: what is told last counts", x.judge(0, Bench.STRICT), 1);
    }

    private static void machinesAreApart() {
        HistoryCourt x = Bench.withMachines(4);
        for (int m = 0; m < 4; m++) {
            x.row(m, 0, 0, 60 + m, 0);
            x.history(Bench.MACHINE, m);
        }
        for (int h = 0; h < 4; h++) {
            x.begin(h, 0, 0, 0, 0);
            x.fills(h, Bench.STRICT, 0);
            DUE.is("MACHINE " + h + " has a table of its own", x.fill(0), 60 + h);
        }
    }

    private static void machineTakesAnyAAndB() {
        goes("MACHINE: a and b are any", Bench.MACHINE, call(3, LOW, HIGH, 0));
        goes("MACHINE: a and b are any", Bench.MACHINE, call(0, HIGH, LOW, 0));
    }
}
