import java.util.ArrayList;
import java.util.List;
import java.util.Random;

/**
 * Runs of calls with any numbers, in any state: none throws, and a run without its refused calls answers the
 * same and ends in the same. Each court is used for less than 512 calls.
 */
public final class RefusalTest {
    private static final int[] ODD = {Integer.MIN_VALUE, Integer.MAX_VALUE, -5, -1, 4, 7, 8, 10, 12, 16, 31, 32, 64, 100};
    private static final int RUNS = 1500, CALLS = 160;
    private static final int KINDS_OF_CALLS = 22;
    private static final int ALTER = 6, STATUS = 7, ANSWERED = 8, FILL = 15;

    private static final Due DUE = new Due();

    public static void main(String[] args) {
        int refused = 0;
        for (int seed = 0; seed < RUNS; seed++) {
            refused += compareWithoutRefused(seed);
        }
        System.out.println(refused + " of " + RUNS * CALLS + " calls were refused");
        DUE.holds("many are refused, many are not", refused > RUNS * CALLS / 5 && refused < RUNS * CALLS * 4 / 5);
        DUE.end();
    }

    private static int compareWithoutRefused(int seed) {
        int[][] calls = someCalls(new Random(seed));
        HistoryCourt all = new HistoryCourt();
        List<int[]> kept = new ArrayList<>();
        List<Long> due = new ArrayList<>();
        for (int[] call : calls) {
            long got = one(all, call);
            DUE.holds("run " + seed + ", call " + call[0] + " answers " + got, got >= -4 || answersAnyInt(call[0]));
            if (got >= 0 || answersAnyInt(call[0])) {
                kept.add(call);
                due.add(got);
            }
        }
        HistoryCourt fewer = new HistoryCourt();
        for (int i = 0; i < kept.size(); i++) {
            DUE.is("run " + seed + " without refused calls, call " + kept.get(i)[0], one(fewer, kept.get(i)), due.get(i));
        }
        DUE.holds("run " + seed + " without refused calls ends in the same", View.of(all).equals(View.of(fewer)));
        return calls.length - kept.size();
    }

    /** Of these a refusal is told by status(), which it changes. */
    private static boolean answersAnyInt(int which) {
        return which == ALTER || which == STATUS || which == ANSWERED || which == FILL;
    }

    /** At first a MACHINE and some HISTORIES, so that less is refused later. */
    private static int[][] someCalls(Random random) {
        int[][] calls = new int[CALLS][6];
        calls[0] = new int[] {0, 0, 0, 0, 0, 0};
        for (int i = 1; i < 4; i++) {
            calls[i] = new int[] {2, random.nextInt(7), 0, 0, 0, 0};
        }
        for (int i = 4; i < CALLS; i++) {
            fillIn(random, calls[i]);
        }
        return calls;
    }

    private static void fillIn(Random random, int[] call) {
        call[0] = random.nextInt(KINDS_OF_CALLS);
        int most = random.nextInt(4) == 0 ? 12 : 4;
        for (int i = 1; i < 6; i++) {
            call[i] = random.nextInt(16) == 0 ? ODD[random.nextInt(ODD.length)] : random.nextInt(most);
        }
        if (call[0] == 2 && random.nextInt(3) != 0) {
            call[2] = 0;
        }
        if (random.nextInt(3) == 0) {
            call[0] = 4 + random.nextInt(2);
        }
    }

    private static long one(HistoryCourt x, int[] n) {
        switch (n[0]) {
            case 0: return x.machine();
            case 1: return x.row(n[1], n[2], n[3], n[4], n[5]);
            case 2: return x.history(n[1] + n[3], n[2]);
            case 3: return x.say(n[1]);
            case 4: return x.begin(n[1], n[2], n[3], n[4], n[5]);
            case 5: return x.answer(n[1], n[2], n[3]);
            case ALTER: return x.alter(n[1], n[2], n[3]);
            case STATUS: return x.status();
            case ANSWERED: return x.answered(n[1], n[2]);
            case 9: return x.call(n[1], n[2], n[3]);
            case 10: return x.about(n[1], n[2]);
            case 11: return x.ahead(n[1], n[2], n[3], n[4]);
            case 12: return x.judge(n[1], n[2]);
            case 13: return x.first(n[1], n[2], n[3]);
            case 14: return x.orders(n[1], n[2]);
            case FILL: return x.fill(n[1]);
            case 16: return x.least(n[1], n[2]);
            case 17: return x.fills(n[1], n[2], n[3]);
            case 18: return x.apart(n[1], n[2], n[3]);
            case 19: return x.rules(n[1]);
            case 20: return x.check(n[1], n[2]);
            default: return n[2] == 0 ? x.copy(n[1]) : x.part(n[1]);
        }
    }
}
