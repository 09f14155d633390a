import java.util.ArrayDeque;
import java.util.ArrayList;
import java.util.Deque;
import java.util.HashMap;
import java.util.HashSet;
import java.util.List;
import java.util.Map;
import java.util.Set;
import java.util.TreeSet;

/**
 * The document told again in the slowest and plainest way, to compare with: every row is tried, and
 * each row is played from its beginning with the collections of the Java library.
 */
final class Oracle {
    static final class Call {
        int caller, act, a, b, begun, answered, value;
    }

    final int kind;
    final int[][] machineAnswers;
    final int[][] machineNexts;
    final List<Call> calls = new ArrayList<>();
    int ticks;

    Oracle(int kind, int[][] machineAnswers, int[][] machineNexts) {
        this.kind = kind;
        this.machineAnswers = machineAnswers;
        this.machineNexts = machineNexts;
    }

    int begin(int caller, int act, int a, int b) {
        Call call = new Call();
        call.caller = caller;
        call.act = act;
        call.a = a;
        call.b = b;
        call.begun = ++ticks;
        calls.add(call);
        return calls.size() - 1;
    }

    int answer(int c, int v) {
        calls.get(c).answered = ++ticks;
        calls.get(c).value = v;
        return ticks;
    }

    Set<Integer> all() {
        Set<Integer> some = new TreeSet<>();
        for (int c = 0; c < calls.size(); c++) {
            some.add(c);
        }
        return some;
    }

    boolean ahead(int rule, Set<Integer> part, int xNumber, int yNumber) {
        Call x = calls.get(xNumber);
        Call y = calls.get(yNumber);
        boolean strict = x.answered != 0 && x.answered < y.begun;
        if (rule == 0) {
            return strict;
        }
        if (rule == 2) {
            return strict && x.caller == y.caller;
        }
        return strict && (x.caller == y.caller || quietBetween(part, x.answered, y.begun));
    }

    private boolean quietBetween(Set<Integer> part, int from, int below) {
        for (int t = from; t < below; t++) {
            boolean quiet = true;
            for (int c : part) {
                Call z = calls.get(c);
                if (z.begun <= t && !(z.answered != 0 && z.answered <= t)) {
                    quiet = false;
                }
            }
            if (quiet) {
                return true;
            }
        }
        return false;
    }

    /** Every ORDER of a part, the FIRST one first. */
    List<List<Integer>> orders(int rule, Set<Integer> part) {
        List<List<Integer>> found = new ArrayList<>();
        extend(rule, part, new ArrayList<>(), found);
        return found;
    }

    private void extend(int rule, Set<Integer> part, List<Integer> row, List<List<Integer>> found) {
        if (isOrder(part, row)) {
            found.add(new ArrayList<>(row));
        }
        for (int c : part) {
            if (!row.contains(c) && allAheadStand(rule, part, row, c)) {
                row.add(c);
                extend(rule, part, row, found);
                row.remove(row.size() - 1);
            }
        }
    }

    boolean allAheadStand(int rule, Set<Integer> part, List<Integer> row, int c) {
        for (int x : part) {
            if (ahead(rule, part, x, c) && !row.contains(x)) {
                return false;
            }
        }
        return true;
    }

    private boolean isOrder(Set<Integer> part, List<Integer> row) {
        for (int c : part) {
            if (calls.get(c).answered != 0 && !row.contains(c)) {
                return false;
            }
        }
        int[] replies = play(row);
        for (int i = 0; i < replies.length; i++) {
            Call call = calls.get(row.get(i));
            if (call.answered != 0 && call.value != replies[i]) {
                return false;
            }
        }
        return true;
    }

    Set<Integer> leastPart(int rule) {
        Set<Integer> left = all();
        if (!orders(rule, left).isEmpty()) {
            return new TreeSet<>();
        }
        boolean changed = true;
        while (changed) {
            changed = false;
            for (int c : all()) {
                Set<Integer> fewer = new TreeSet<>(left);
                if (fewer.remove(c) && orders(rule, fewer).isEmpty()) {
                    left = fewer;
                    changed = true;
                }
            }
        }
        return left;
    }

    TreeSet<Integer> fills(int target, List<List<Integer>> orders) {
        TreeSet<Integer> answers = new TreeSet<>();
        for (List<Integer> row : orders) {
            int place = row.indexOf(target);
            if (place >= 0) {
                answers.add(play(row)[place]);
            }
        }
        return answers;
    }

    int check(int rule, List<Integer> row) {
        for (int i = 0; i < row.size(); i++) {
            int c = row.get(i);
            List<Integer> before = row.subList(0, i);
            if (c >= calls.size() || before.contains(c) || !allAheadStand(rule, all(), before, c)) {
                return i;
            }
            Call call = calls.get(c);
            if (call.answered != 0 && play(row.subList(0, i + 1))[i] != call.value) {
                return i;
            }
        }
        return isOrder(all(), row) ? 100 : row.size();
    }

    /** What the MODEL, from its beginning on, gives each CALL of a row. */
    int[] play(List<Integer> row) {
        Thing thing = new Thing();
        int[] replies = new int[row.size()];
        for (int i = 0; i < replies.length; i++) {
            replies[i] = thing.take(calls.get(row.get(i)));
        }
        return replies;
    }

    private final class Thing {
        int value;
        final Deque<Integer> line = new ArrayDeque<>();
        final Set<Integer> members = new HashSet<>();
        final Map<Integer, Integer> cells = new HashMap<>();

        int take(Call call) {
            switch (kind) {
                case 0: return takeCell(call.act, call.a, call.a, call.b);
                case 1:
                    value += call.act == 1 ? call.a : 0;
                    return value;
                case 2:
                case 3: return takeLine(call);
                case 4: return takeSet(call);
                case 5:
                    value = cells.getOrDefault(call.a, 0);
                    int reply = takeCell(call.act, call.b, call.b >> 16, (short) (call.b & 0xFFFF));
                    cells.put(call.a, value);
                    return reply;
                default:
                    int answer = machineAnswers[value][call.act];
                    value = machineNexts[value][call.act];
                    return answer;
            }
        }

        private int takeCell(int act, int written, int from, int to) {
            if (act == 0) {
                return value;
            }
            if (act == 1) {
                value = written;
                return 0;
            }
            boolean swaps = value == from;
            value = swaps ? to : value;
            return swaps ? 1 : 0;
        }

        private int takeLine(Call call) {
            if (call.act == 0) {
                line.addLast(call.a);
                return line.size();
            }
            Integer gone = kind == 2 ? line.pollFirst() : line.pollLast();
            return gone == null ? -1 : gone;
        }

        private int takeSet(Call call) {
            switch (call.act) {
                case 0: return members.add(call.a) ? 1 : 0;
                case 1: return members.remove(call.a) ? 1 : 0;
                default: return members.contains(call.a) ? 1 : 0;
            }
        }
    }
}
