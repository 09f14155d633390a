import java.util.ArrayList;
import java.util.List;
import java.util.Random;
import java.util.Set;
import java.util.TreeSet;

/** Many histories, made by numbers that are the same each time, judged by the court and the oracle. */
public final class OracleTest {
    private static final int[] ACTS = {3, 2, 2, 2, 3, 3, 4};
    private static final int[] SMALL = {0, 1, 2, 3, 65537, 131073, 5, -1};

    private final Random random;
    private final Due due;
    private HistoryCourt court = new HistoryCourt();
    private final Oracle oracle;
    private final String name;
    private int taken;

    private OracleTest(int seed, int mostCalls, Due due) {
        random = new Random(seed);
        this.due = due;
        int kind = seed % 7;
        name = "history " + seed + " of kind " + kind;
        int[][] answers = new int[8][4];
        int[][] nexts = new int[8][4];
        if (kind == 6) {
            court.machine();
            tellMachine(answers, nexts);
        }
        due.is(name, court.history(kind, 0), 0);
        oracle = new Oracle(kind, answers, nexts);
        makeCalls(mostCalls);
    }

    public static void main(String[] args) {
        Due due = new Due();
        int taken = 0;
        int histories = 2800;
        for (int seed = 0; seed < histories; seed++) {
            OracleTest test = new OracleTest(seed, 2 + seed % 6, due);
            test.compare();
            taken += test.taken;
        }
        System.out.println(taken + " of " + 3 * histories + " judgements are TAKEN");
        due.holds("judgements go both ways", taken > histories / 2 && taken < 5 * histories / 2);
        for (int seed = 0; seed < 70; seed++) {
            new OracleTest(seed, 10, due).compareOrders();
        }
        due.end();
    }

    private void tellMachine(int[][] answers, int[][] nexts) {
        for (int told = 0; told < 20; told++) {
            int state = random.nextInt(4);
            int act = random.nextInt(4);
            answers[state][act] = random.nextInt(3);
            nexts[state][act] = random.nextInt(4);
            due.is(name + " row", court.row(0, state, act, answers[state][act], nexts[state][act]), 0);
        }
    }

    /** Answers are mostly those of a thing that takes each call at the tick of its begin or its answer. */
    private void makeCalls(int mostCalls) {
        int[] open = {-1, -1, -1, -1};
        List<Integer> played = new ArrayList<>();
        int callers = 1 + random.nextInt(4);
        for (int step = 0; step < 3 * mostCalls; step++) {
            int caller = random.nextInt(callers);
            if (open[caller] < 0 && oracle.calls.size() < mostCalls) {
                open[caller] = makeBegin(caller);
                if (random.nextInt(3) == 0) {
                    played.add(open[caller]);
                }
            } else if (open[caller] >= 0 && random.nextInt(4) != 0) {
                int c = open[caller];
                if (!played.contains(c)) {
                    played.add(c);
                }
                int v = oracle.play(played)[played.indexOf(c)];
                v = random.nextInt(9) == 0 ? random.nextInt(4) - 1 : v;
                due.is(name + " answer", court.answer(0, c, v), oracle.answer(c, v));
                open[caller] = -1;
            }
        }
    }

    private int makeBegin(int caller) {
        int act = random.nextInt(ACTS[oracle.kind]);
        int a = oracle.kind == 5 ? random.nextInt(2) : oracle.kind == 4 ? 14 + random.nextInt(2) : SMALL[random.nextInt(3)];
        int b = SMALL[random.nextInt(SMALL.length)];
        int c = oracle.begin(caller, act, a, b);
        due.is(name + " begin", court.begin(0, caller, act, a, b), c);
        return c;
    }

    /** A court is used for 512 calls at most, so each rule has one of its own with the same history. */
    private void makeCourtAnew() {
        court = new HistoryCourt();
        if (oracle.kind == 6) {
            court.machine();
            for (int entry = 0; entry < 32; entry++) {
                int state = entry / 4;
                int act = entry % 4;
                court.row(0, state, act, oracle.machineAnswers[state][act], oracle.machineNexts[state][act]);
            }
        }
        court.history(oracle.kind, 0);
        for (int tick = 1; tick <= oracle.ticks; tick++) {
            for (int c : oracle.all()) {
                Oracle.Call call = oracle.calls.get(c);
                if (call.begun == tick) {
                    due.is(name + " begin", court.begin(0, call.caller, call.act, call.a, call.b), c);
                } else if (call.answered == tick) {
                    due.is(name + " answer", court.answer(0, c, call.value), tick);
                }
            }
        }
    }

    private void compare() {
        int rules = 0;
        for (int rule = 0; rule < 3; rule++) {
            makeCourtAnew();
            compareAhead(rule);
            List<List<Integer>> orders = compareOrders(rule);
            rules |= orders.isEmpty() ? 0 : 1 << rule;
            compareFills(rule, orders);
            compareLeast(rule);
            compareApart(rule);
            compareCheck(rule, orders);
        }
        taken = Integer.bitCount(rules);
        due.is(name + " rules", court.rules(0), rules);
    }

    private void compareOrders() {
        for (int rule = 0; rule < 3; rule++) {
            makeCourtAnew();
            compareFills(rule, compareOrders(rule));
        }
    }

    private void compareAhead(int rule) {
        for (int x : oracle.all()) {
            for (int y : oracle.all()) {
                boolean want = oracle.ahead(rule, oracle.all(), x, y);
                due.is(name + " ahead(0, " + rule + ", " + x + ", " + y + ")", court.ahead(0, rule, x, y), want ? 1 : 0);
            }
        }
    }

    private List<List<Integer>> compareOrders(int rule) {
        List<List<Integer>> orders = oracle.orders(rule, oracle.all());
        due.is(name + " orders by " + rule, court.orders(0, rule), orders.size());
        due.is(name + " judge by " + rule, court.judge(0, rule), orders.isEmpty() ? 0 : 1);
        List<Integer> first = orders.isEmpty() ? List.of() : orders.get(0);
        for (int i = -1; i < 11; i++) {
            int want = i >= 0 && i < first.size() ? first.get(i) : -1;
            due.is(name + " first(0, " + rule + ", " + i + ")", court.first(0, rule, i), want);
        }
        return orders;
    }

    private void compareFills(int rule, List<List<Integer>> orders) {
        for (int c : oracle.all()) {
            String what = name + " fills(0, " + rule + ", " + c + ")";
            if (oracle.calls.get(c).answered != 0) {
                due.is(what, court.fills(0, rule, c), -3);
                continue;
            }
            TreeSet<Integer> answers = oracle.fills(c, orders);
            due.is(what, court.fills(0, rule, c), answers.size());
            int i = 0;
            for (int answer : answers) {
                due.is(what + " fill " + i, court.fill(i++), answer);
            }
            court.fill(i);
            due.is(what + " fill behind the last", court.status(), -1);
        }
    }

    private void compareLeast(int rule) {
        Set<Integer> part = oracle.leastPart(rule);
        due.is(name + " least by " + rule, court.least(0, rule), part.size());
        int i = 0;
        for (int c : part) {
            due.is(name + " part " + i + " by " + rule, court.part(i++), c);
        }
        due.is(name + " part behind the last", court.part(i), -1);
    }

    private void compareApart(int rule) {
        for (int key = 0; key < 4; key++) {
            Set<Integer> part = new TreeSet<>();
            for (int c : oracle.all()) {
                if (oracle.calls.get(c).a == key) {
                    part.add(c);
                }
            }
            int want = oracle.kind != 5 ? -1 : oracle.orders(rule, part).isEmpty() ? 0 : 1;
            due.is(name + " apart(0, " + rule + ", " + key + ")", court.apart(0, rule, key), want);
        }
    }

    private void compareCheck(int rule, List<List<Integer>> orders) {
        for (int round = 0; round < 6; round++) {
            List<Integer> row = new ArrayList<>();
            if (!orders.isEmpty() && round > 1) {
                row.addAll(orders.get(random.nextInt(orders.size())));
            }
            for (int change = 0; change < round; change++) {
                int place = random.nextInt(row.size() + 1);
                if (row.size() < 10 && random.nextBoolean()) {
                    row.add(place, random.nextInt(oracle.calls.size() + 1) % 10);
                } else if (place < row.size() && random.nextBoolean()) {
                    row.remove(place);
                }
            }
            for (int i = 0; i < row.size(); i++) {
                due.is(name + " say", court.say(row.get(i)), i + 1);
            }
            due.is(name + " check by " + rule + " of " + row, court.check(0, rule), oracle.check(rule, row));
        }
    }
}
