import java.lang.reflect.Method;
import java.util.ArrayList;
import java.util.Arrays;
import java.util.List;
import java.util.Random;

/** Runs of all calls, mixed, over several histories and machines: each answer is that of the PlainCourt. */
public final class RunsTest {
    private static final int RUNS = 200, CALLS = 490;
    private static final int[] ODD = {Integer.MIN_VALUE, Integer.MAX_VALUE, -2, -1, 3, 4, 7, 8, 9, 10, 11, 12, 15, 16, 100};
    private static final int[] VALUES = {0, 1, 2, 0, 1, 2, -1, 65537, 131073, 0x1FFFF, -65535, Integer.MIN_VALUE};
    private static final String[] JUDGING = {"judge", "first", "orders", "least", "fills", "apart", "rules", "ahead"};
    private static final String[] TELLING = {
        "alter", "answered", "call", "about", "copy", "history", "machine", "row", "check", "part", "fill", "say",
    };

    private static final Due DUE = new Due();
    private static int refused, orders;

    private final Random random;
    private final HistoryCourt court = new HistoryCourt();
    private final PlainCourt plain = new PlainCourt();
    private final int mostCalls;
    /** HISTORY 0 goes on till it is FULL. */
    private final boolean isLong;
    private final StringBuilder told = new StringBuilder();
    private int calls;
    /** The HISTORY that the next call is mostly about. */
    private int h;

    private RunsTest(int seed) {
        random = new Random(seed);
        mostCalls = 4 + seed % 4;
        isLong = seed % 20 == 0;
    }

    public static void main(String[] args) throws Exception {
        for (int seed = 0; seed < RUNS; seed++) {
            RunsTest run = new RunsTest(seed);
            while (run.calls < CALLS) {
                run.oneCall();
            }
        }
        System.out.println(refused + " of " + RUNS * CALLS + " calls were refused, " + orders + " rows were ORDERS");
        DUE.holds("many are refused, many are not", refused > RUNS * CALLS / 20 && refused < RUNS * CALLS / 2);
        DUE.holds("some rows are ORDERS", orders > RUNS);
        DUE.end();
    }

    private void oneCall() throws Exception {
        h = plain.histories.isEmpty() ? 0 : random.nextInt(plain.histories.size());
        String name = someName();
        if (name.equals("check")) {
            saySomeRow();
        }
        Method method = methodOf(HistoryCourt.class, name);
        Object[] numbers = new Object[method.getParameterCount()];
        int[] chosen = someNumbers(name, numbers.length);
        for (int i = 0; i < numbers.length; i++) {
            boolean isOdd = random.nextInt(60) == 0;
            numbers[i] = isOdd ? ODD[random.nextInt(ODD.length)] : chosen[i];
        }
        long got = compare(name, numbers);
        orders += name.equals("check") && got == 100 ? 1 : 0;
        if (random.nextInt(3) == 0) {
            compare("status");
        }
    }

    /** Mostly an ORDER of the history that is checked next, at times with a call too many or too few. */
    private void saySomeRow() throws Exception {
        Oracle history = plain.histories.get(h);
        List<List<Integer>> some = history.orders(2, history.all());
        List<Integer> row = some.isEmpty() ? List.of() : some.get(random.nextInt(some.size()));
        int fewer = random.nextInt(4) == 0 ? 1 : 0;
        for (int i = fewer; i < row.size(); i++) {
            compare("say", row.get(i));
        }
        if (random.nextInt(4) == 0) {
            compare("say", random.nextInt(mostCalls));
        }
    }

    private long compare(String name, Object... numbers) throws Exception {
        long got = ((Number) methodOf(HistoryCourt.class, name).invoke(court, numbers)).longValue();
        long want = ((Number) methodOf(PlainCourt.class, name).invoke(plain, numbers)).longValue();
        told.append(name).append(Arrays.toString(numbers)).append(' ');
        DUE.is(got == want ? name : told.toString(), got, want);
        refused += got < 0 && !name.equals("status") ? 1 : 0;
        calls++;
        return got;
    }

    private static Method methodOf(Class<?> of, String name) {
        for (Method method : of.getDeclaredMethods()) {
            if (method.getName().equals(name)) {
                return method;
            }
        }
        throw new IllegalArgumentException(name);
    }

    private String someName() {
        if (plain.histories.size() < 2) {
            return plain.machines.isEmpty() ? "machine" : random.nextInt(4) == 0 ? "history" : "row";
        }
        switch (random.nextInt(10)) {
            case 0:
            case 1:
            case 2: return hasRoom() ? "begin" : "fills";
            case 3:
            case 4: return hasOpen() ? "answer" : "check";
            case 5:
            case 6:
            case 7: return JUDGING[random.nextInt(JUDGING.length)];
            default: return TELLING[random.nextInt(TELLING.length)];
        }
    }

    /** Mostly: a history of many calls takes the PlainCourt long. */
    private boolean hasRoom() {
        int most = h == 0 && isLong ? 10 : mostCalls;
        return plain.histories.get(h).calls.size() < most || random.nextInt(30) == 0;
    }

    private boolean hasOpen() {
        return plain.about(h, 2) > 0 || random.nextInt(20) == 0;
    }

    /** Numbers that are mostly not refused. */
    private int[] someNumbers(String name, int count) {
        int[] numbers = new int[count];
        for (int i = 0; i < count; i++) {
            numbers[i] = random.nextInt(4);
        }
        switch (name) {
            case "row":
                numbers[0] = random.nextInt(plain.machines.size());
                break;
            case "history":
                numbers[0] = random.nextInt(7);
                numbers[1] = numbers[0] == 6 ? random.nextInt(plain.machines.size()) : 0;
                break;
            case "begin":
                numbers = someBegin();
                break;
            case "answer":
                numbers = someAnswer();
                break;
            case "part":
            case "fill":
                break;
            case "say":
                numbers[0] = random.nextInt(mostCalls);
                break;
            case "fills":
                numbers = new int[] {h, random.nextInt(3), openOf()};
                break;
            default:
                if (count > 0) {
                    numbers[0] = h;
                }
                if (count > 1 && !name.equals("about") && !name.equals("call")) {
                    numbers[1] = random.nextInt(3);
                }
        }
        return numbers;
    }

    private int[] someBegin() {
        Oracle history = plain.histories.get(h);
        int kind = history.kind;
        int act = random.nextInt(new int[] {3, 2, 2, 2, 3, 3, 4}[kind]);
        int a = kind == 4 ? random.nextInt(2) * 15 : kind == 5 ? random.nextInt(2) * 3 : VALUES[random.nextInt(6)];
        int b = VALUES[random.nextInt(VALUES.length)];
        return new int[] {h, freeCaller(history), act, a, b};
    }

    private int freeCaller(Oracle history) {
        int caller = random.nextInt(4);
        for (Oracle.Call call : history.calls) {
            if (call.caller == caller && call.answered == 0) {
                return random.nextInt(4);
            }
        }
        return caller;
    }

    private int openOf() {
        List<Integer> open = new ArrayList<>();
        Oracle history = plain.histories.get(h);
        for (int c : history.all()) {
            if (history.calls.get(c).answered == 0) {
                open.add(c);
            }
        }
        return open.isEmpty() ? random.nextInt(3) : open.get(random.nextInt(open.size()));
    }

    /** Mostly what a thing would answer that takes each call at the tick of its answer. */
    private int[] someAnswer() {
        Oracle history = plain.histories.get(h);
        int target = openOf();
        int v = random.nextInt(4) - 1;
        if (target < history.calls.size() && random.nextInt(6) != 0) {
            List<Integer> row = new ArrayList<>();
            for (int tick = 1; tick <= history.ticks; tick++) {
                for (int c : history.all()) {
                    if (history.calls.get(c).answered == tick && c != target) {
                        row.add(c);
                    }
                }
            }
            row.add(target);
            v = history.play(row)[row.size() - 1];
        }
        return new int[] {h, target, v};
    }
}
