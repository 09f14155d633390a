import java.lang.management.ManagementFactory;

/** A run of the dearest calls makes little: what it makes is never given back in its room. */
public final class RoomTest {
    private static final long MOST_BYTES = 200_000;

    public static void main(String[] args) {
        Due due = new Due();
        com.sun.management.ThreadMXBean threads = (com.sun.management.ThreadMXBean) ManagementFactory.getThreadMXBean();
        run(0);
        for (int kind = 0; kind < 6; kind++) {
            long before = threads.getThreadAllocatedBytes(Thread.currentThread().getId());
            long answers = run(kind);
            long made = threads.getThreadAllocatedBytes(Thread.currentThread().getId()) - before;
            due.holds("kind " + kind + " made " + made + " bytes, answers " + answers, made < MOST_BYTES);
        }
        due.end();
    }

    private static long run(int kind) {
        HistoryCourt x = new HistoryCourt();
        int[] callers = {0, 1, 2, 3, 0, 1, 2, 3, 0, 1};
        x.history(kind, 0);
        for (int c = 0; c < 10; c++) {
            x.begin(0, callers[c], kind == 4 ? 2 : c == 9 || kind > 1 ? 0 : 1, kind == 5 ? c % 4 : c % 3 - 1, 0);
            if (c < 9) {
                x.answer(0, c, 0);
            }
        }
        x.copy(0);
        long answers = 0;
        for (int i = 0; i < 115; i++) {
            answers += x.least(0, 2) + x.fills(0, 2, 9) + x.orders(0, 2) + x.rules(0);
        }
        return answers;
    }
}
