import java.util.ArrayList;
import java.util.List;
import java.util.Set;
import java.util.TreeSet;

/**
 * The whole face of the document told again, promise by promise, over the Oracle: each refusal is asked for in the
 * order of section 4. It is as slow as the Oracle.
 */
final class PlainCourt {
    private static final int NONE = -1, BAD = -2, STATE = -3, FULL = -4;
    private static final int[] ACTS = {3, 2, 2, 2, 3, 3, 4};

    final List<int[][][]> machines = new ArrayList<>();
    final List<Oracle> histories = new ArrayList<>();
    private final List<Integer> theRow = new ArrayList<>();
    private List<Integer> part = new ArrayList<>();
    private List<Integer> fillings = new ArrayList<>();
    private int status;

    private static boolean within(int n, int from, int to) {
        return n >= from && n <= to;
    }

    private boolean noHistory(int h) {
        return !within(h, 0, histories.size() - 1);
    }

    private boolean noRule(int rule) {
        return !within(rule, 0, 2);
    }

    private boolean noCall(int h, int c) {
        return noHistory(h) || !within(c, 0, histories.get(h).calls.size() - 1);
    }

    private Oracle.Call callOf(int h, int c) {
        return histories.get(h).calls.get(c);
    }

    private boolean isOpen(int h, int c) {
        return callOf(h, c).answered == 0;
    }

    int machine() {
        if (machines.size() == 4) {
            return FULL;
        }
        machines.add(new int[][][] {new int[8][4], new int[8][4]});
        return machines.size() - 1;
    }

    int row(int machine, int state, int act, int answer, int next) {
        if (!within(machine, 0, machines.size() - 1)) {
            return NONE;
        }
        if (!within(state, 0, 7) || !within(act, 0, 3) || !within(next, 0, 7)) {
            return BAD;
        }
        int[][][] table = machines.get(machine);
        for (Oracle history : histories) {
            if (history.kind == 6 && history.machineAnswers == table[0]) {
                return STATE;
            }
        }
        table[0][state][act] = answer;
        table[1][state][act] = next;
        return 0;
    }

    int history(int kind, int machine) {
        if (!within(kind, 0, 6)) {
            return NONE;
        }
        if (kind == 6 && !within(machine, 0, machines.size() - 1)) {
            return NONE;
        }
        if (kind != 6 && machine != 0) {
            return BAD;
        }
        if (histories.size() == 12) {
            return FULL;
        }
        int[][][] table = kind == 6 ? machines.get(machine) : new int[2][][];
        histories.add(new Oracle(kind, table[0], table[1]));
        return histories.size() - 1;
    }

    int copy(int h) {
        if (noHistory(h)) {
            return NONE;
        }
        if (histories.size() == 12) {
            return FULL;
        }
        Oracle from = histories.get(h);
        Oracle to = new Oracle(from.kind, from.machineAnswers, from.machineNexts);
        for (int tick = 1; tick <= from.ticks; tick++) {
            for (int c = 0; c < from.calls.size(); c++) {
                Oracle.Call call = from.calls.get(c);
                if (call.begun == tick) {
                    to.begin(call.caller, call.act, call.a, call.b);
                } else if (call.answered == tick) {
                    to.answer(c, call.value);
                }
            }
        }
        histories.add(to);
        return histories.size() - 1;
    }

    int begin(int h, int caller, int act, int a, int b) {
        if (noHistory(h)) {
            return NONE;
        }
        Oracle history = histories.get(h);
        if (!within(caller, 0, 3) || !within(act, 0, ACTS[history.kind] - 1)) {
            return BAD;
        }
        if (history.kind == 4 && !within(a, 0, 15) || history.kind == 5 && !within(a, 0, 3)) {
            return BAD;
        }
        for (Oracle.Call call : history.calls) {
            if (call.caller == caller && call.answered == 0) {
                return STATE;
            }
        }
        return history.calls.size() == 10 ? FULL : history.begin(caller, act, a, b);
    }

    int answer(int h, int call, int v) {
        if (noCall(h, call)) {
            return NONE;
        }
        return isOpen(h, call) ? histories.get(h).answer(call, v) : STATE;
    }

    int alter(int h, int call, int v) {
        status = noCall(h, call) ? NONE : isOpen(h, call) ? STATE : 0;
        if (status != 0) {
            return 0;
        }
        int was = callOf(h, call).value;
        callOf(h, call).value = v;
        return was;
    }

    int status() {
        return status;
    }

    int answered(int h, int call) {
        status = noCall(h, call) ? NONE : isOpen(h, call) ? STATE : 0;
        return status == 0 ? callOf(h, call).value : 0;
    }

    int call(int h, int call, int what) {
        if (noCall(h, call) || !within(what, 0, 3)) {
            return NONE;
        }
        Oracle.Call of = callOf(h, call);
        return new int[] {of.caller, of.act, of.begun, of.answered}[what];
    }

    int about(int h, int what) {
        if (noHistory(h) || !within(what, 0, 3)) {
            return NONE;
        }
        Oracle of = histories.get(h);
        int open = 0;
        for (Oracle.Call call : of.calls) {
            open += call.answered == 0 ? 1 : 0;
        }
        return new int[] {of.kind, of.calls.size(), open, of.ticks}[what];
    }

    int ahead(int h, int rule, int x, int y) {
        if (noCall(h, x) || noCall(h, y) || noRule(rule)) {
            return NONE;
        }
        return histories.get(h).ahead(rule, histories.get(h).all(), x, y) ? 1 : 0;
    }

    private List<List<Integer>> ordersOf(int h, int rule) {
        return histories.get(h).orders(rule, histories.get(h).all());
    }

    int judge(int h, int rule) {
        if (noHistory(h) || noRule(rule)) {
            return NONE;
        }
        return ordersOf(h, rule).isEmpty() ? 0 : 1;
    }

    int first(int h, int rule, int i) {
        if (noHistory(h) || noRule(rule)) {
            return NONE;
        }
        List<List<Integer>> orders = ordersOf(h, rule);
        if (orders.isEmpty() || !within(i, 0, orders.get(0).size() - 1)) {
            return NONE;
        }
        return orders.get(0).get(i);
    }

    long orders(int h, int rule) {
        if (noHistory(h) || noRule(rule)) {
            return NONE;
        }
        return ordersOf(h, rule).size();
    }

    int least(int h, int rule) {
        if (noHistory(h) || noRule(rule)) {
            return NONE;
        }
        part = new ArrayList<>(histories.get(h).leastPart(rule));
        return part.size();
    }

    int part(int i) {
        return within(i, 0, part.size() - 1) ? part.get(i) : NONE;
    }

    int fills(int h, int rule, int call) {
        if (noCall(h, call) || noRule(rule)) {
            return NONE;
        }
        if (!isOpen(h, call)) {
            return STATE;
        }
        fillings = new ArrayList<>(histories.get(h).fills(call, ordersOf(h, rule)));
        return fillings.size();
    }

    int fill(int i) {
        status = within(i, 0, fillings.size() - 1) ? 0 : NONE;
        return status == 0 ? fillings.get(i) : 0;
    }

    int apart(int h, int rule, int key) {
        if (noHistory(h) || noRule(rule) || histories.get(h).kind != 5 || !within(key, 0, 3)) {
            return NONE;
        }
        Set<Integer> ofKey = new TreeSet<>();
        for (int c : histories.get(h).all()) {
            if (callOf(h, c).a == key) {
                ofKey.add(c);
            }
        }
        return histories.get(h).orders(rule, ofKey).isEmpty() ? 0 : 1;
    }

    int rules(int h) {
        if (noHistory(h)) {
            return NONE;
        }
        return judge(h, 0) + 2 * judge(h, 1) + 4 * judge(h, 2);
    }

    int say(int call) {
        if (!within(call, 0, 9)) {
            return BAD;
        }
        if (theRow.size() == 10) {
            return FULL;
        }
        theRow.add(call);
        return theRow.size();
    }

    int check(int h, int rule) {
        if (noHistory(h) || noRule(rule)) {
            return NONE;
        }
        int place = histories.get(h).check(rule, theRow);
        theRow.clear();
        return place;
    }
}
