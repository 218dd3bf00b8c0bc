import java.lang.management.ManagementFactory;

/** The room that a run of calls takes: little at first, and nothing more by any call. */
public final class RoomTest {
    private static long allocated() {
        return ((com.sun.management.ThreadMXBean) ManagementFactory.getThreadMXBean())
            .getThreadAllocatedBytes(Thread.currentThread().getId());
    }

    private static int calls(AllHome x) {
        int sum = 0;
        for (int k = 0; k < 40; k++) {
            int kind = k % 9;
            sum += x.states(kind) + x.least(kind, 1, -1) + x.stuck(kind) + x.work(kind, 1) + x.act(kind, 3, k);
            sum += x.step(0, 0, 0) + x.step(0, 1, 0) + x.step(0, 2, 0) + x.row(0, 1, 60) + x.steps(0, 0, 0, 60);
            sum += x.shift(0, 0, 0, 1, 5) + (int) x.element(0, 3) + x.ofRun(0, 4) + x.keep(1, 2) + x.taken(1, 0);
        }
        return sum;
    }

    private static AllHome ready() {
        AllHome x = Due.withHuts("bb", "a", "d;");
        for (int kind = 0; kind < 9; kind++) {
            x.way(kind);
        }
        x.run(2);
        return x;
    }

    public static void main(String[] args) {
        calls(ready());
        long first = allocated();
        AllHome made = new AllHome();
        long bytes = allocated() - first;
        Due.isTrue("a new object takes " + bytes + " bytes", made.count(0) == 0 && bytes < 1000000);
        AllHome x = ready();
        long before = allocated();
        int sum = calls(x);
        long more = allocated() - before;
        Due.isTrue("600 calls take " + more + " bytes more (" + sum + ")", more < 2000);
        Due.end("RoomTest");
    }
}
