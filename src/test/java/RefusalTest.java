import java.util.Random;

/** Calls with any numbers, in any state, never throw; and what is refused changes nothing. */
public final class RefusalTest {
    private static final int[] ODD = {Integer.MIN_VALUE, Integer.MAX_VALUE, -5, -1, 4, 7, 8, 10, 12, 16, 31, 32, 64, 100};

    private final Random random;
    private final HistoryCourt court = new HistoryCourt();

    private RefusalTest(int seed) {
        random = new Random(seed);
    }

    public static void main(String[] args) {
        Due due = new Due();
        for (int seed = 0; seed < 60; seed++) {
            RefusalTest test = new RefusalTest(seed);
            for (int i = 0; i < 512; i++) {
                test.step(due);
            }
        }
        due.end();
    }

    private int number(int most) {
        return random.nextInt(12) == 0 ? ODD[random.nextInt(ODD.length)] : random.nextInt(most);
    }

    private void step(Due due) {
        long before = fingerprint();
        int which = random.nextInt(21);
        long got = one(which);
        boolean isRefused = got < 0 && got >= -4 && which != 6 && which != 8 && which != 15;
        if (isRefused) {
            due.is("what is seen after a refused call " + which, fingerprint(), before);
        }
        due.holds("call " + which + " answers " + got, got >= -4 || which == 6 || which == 8 || which == 15);
    }

    private long one(int which) {
        switch (which) {
            case 0: return court.machine();
            case 1: return court.row(number(4), number(8), number(4), number(3), number(8));
            case 2: return court.history(number(7), random.nextInt(3) == 0 ? number(4) : 0);
            case 3: return random.nextInt(4) == 0 ? court.copy(number(12)) : court.say(number(10));
            case 4: return court.begin(number(12), number(4), number(3), number(4), number(5));
            case 5: return court.answer(number(12), number(10), number(3));
            case 6: return court.alter(number(12), number(10), number(3));
            case 7: return court.status();
            case 8: return court.answered(number(12), number(10));
            case 9: return court.call(number(12), number(10), number(4));
            case 10: return court.about(number(12), number(4));
            case 11: return court.ahead(number(12), number(3), number(10), number(10));
            case 12: return court.judge(number(12), number(3));
            case 13: return court.first(number(12), number(3), number(10));
            case 14: return court.orders(number(12), number(3));
            case 15: return court.fill(number(10));
            case 16: return court.least(number(12), number(3)) + (long) court.part(number(10)) * 0;
            case 17: return court.fills(number(12), number(3), number(10));
            case 18: return court.apart(number(12), number(3), number(4));
            case 19: return court.rules(number(12));
            default: return court.check(number(12), number(3));
        }
    }

    /** All that can be seen without changing it. */
    private long fingerprint() {
        long print = court.status();
        for (int i = 0; i < 10; i++) {
            print = print * 31 + court.part(i);
        }
        for (int h = 0; h < 12; h++) {
            for (int what = 0; what < 4; what++) {
                print = print * 31 + court.about(h, what);
                for (int c = 0; c < 10; c++) {
                    print = print * 31 + court.call(h, c, what);
                }
            }
        }
        return print;
    }
}
