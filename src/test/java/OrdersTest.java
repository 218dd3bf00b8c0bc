/** Promises 16 to 19: all orders of steps. What is due was counted by hand where it is small. */
public final class OrdersTest {
    private static AllHome with(String... programs) {
        AllHome x = Due.withHuts(programs);
        for (int kind = 0; kind < 9; kind++) {
            x.way(kind);
        }
        return x;
    }

    /** States, stuck, work of each kind, in rows of three. */
    private static void all(AllHome x, int... want) {
        for (int kind = 0; kind < 9; kind++) {
            Due.is("states " + kind, x.states(kind), want[3 * kind]);
            Due.is("stuck " + kind, x.stuck(kind), want[3 * kind + 1]);
            Due.is("work " + kind, x.work(kind, 0), want[3 * kind + 2]);
            Due.is("same " + kind, x.work(kind, 1), 1);
        }
    }

    private static void path(AllHome x, int way, int what, int... codes) {
        String where = "least " + way + " " + what;
        Due.is(where, x.least(way, what, -1), codes.length);
        for (int i = 0; i < codes.length; i++) {
            Due.is(where + " " + i, x.least(way, what, i), codes[i]);
        }
        Due.is(where + " behind", x.least(way, what, codes.length), -1);
        Due.is(where + " far behind", x.least(way, what, Integer.MAX_VALUE), -1);
        Due.is(where + " ahead", x.least(way, what, -2), -1);
    }

    private static void none(AllHome x, int way, int what) {
        Due.is("least " + way + " " + what, x.least(way, what, -1), -2);
    }

    private static void oneHut() {
        AllHome x = with("");
        all(x, 2, 2, 2, 2, 0, 2, 2, 0, 2, 2, 2, 2, 4, 0, 2, 6, 0, 2, 2, 0, 2, 4, 0, 2, 4, 0, 2);
        path(x, 1, 1, 0);
        path(x, 2, 1, 0);
        path(x, 4, 1, 0, 300, 200);
        path(x, 5, 1, 0, 300, 200, 300, 200);
        path(x, 6, 1, 0);
        path(x, 7, 1, 0, 300, 200);
        path(x, 8, 1, 0, 300, 200);
        for (int kind = 0; kind < 9; kind++) {
            none(x, kind, 0);
        }
        none(x, 0, 1);
        none(x, 3, 1);
    }

    /** The word goes to a hut that there is not: no way ever says over. */
    private static void wordToNobody() {
        AllHome x = with("b");
        all(x, 3, 3, 3, 3, 3, 3, 3, 3, 3, 3, 3, 3, 4, 4, 3, 6, 6, 3, 3, 3, 3, 4, 4, 3, 6, 6, 3);
        for (int kind = 0; kind < 9; kind++) {
            none(x, kind, 0);
            none(x, kind, 1);
        }
    }

    private static void oneWord() {
        AllHome x = with("b", "");
        Due.is("states of WAY", x.states(0), 7);
        Due.is("stuck", x.stuck(0), 7);
        Due.is("work", x.work(0, 0), 7);
        Due.is("states of LANTERN", x.states(1), 9);
        Due.is("stuck", x.stuck(1), 0);
        Due.is("work", x.work(1, 0), 7);
        Due.is("same", x.work(1, 1), 1);
        none(x, 1, 0);
        path(x, 1, 1, 0, 0, 100, 1, 200);
    }

    /** LOOSE is fooled: b leaves while its word to c is out. */
    private static void fooled() {
        AllHome x = with("b", "c", "");
        path(x, 6, 0, 0, 0, 100, 1, 1, 200);
        none(x, 2, 0);
        none(x, 1, 0);
        none(x, 4, 0);
    }

    /** b's word wakes nobody: behind some orders nothing is said any more, behind others it is. */
    private static void someStuck() {
        AllHome x = with("bb;", ";c");
        Due.is("states of LANTERN", x.states(1), 55);
        Due.is("stuck", x.stuck(1), 40);
        Due.is("states of STICK", x.states(2), 35);
        Due.is("stuck", x.stuck(2), 18);
        path(x, 2, 1, 0, 0, 0, 100, 100, 1, 200, 200);
        none(x, 2, 0);
    }

    private static void howMany() {
        AllHome x = with("2b", "", "");
        Due.is("151 are too many", x.states(8), -4);
        Due.is("stuck", x.stuck(8), -4);
        Due.is("work", x.work(8, 0), -4);
        Due.is("same", x.work(8, 1), -4);
        Due.is("least", x.least(8, 0, -1), -4);
        Due.is("least", x.least(8, 1, 0), -4);
        Due.is("a wrong what is named first", x.least(8, 2, -1), -1);
        Due.is("a small one behind a big one", x.states(0), 18);
        AllHome y = with("4b;", ";");
        Due.is("150 are not", y.states(7), 150);
        Due.is("work", y.work(7, 0), 66);
        Due.is("same", y.work(7, 1), 1);
        path(y, 7, 1, 0, 0, 0, 0, 0, 100, 100, 100, 100, 1, 300, 200, 200);
        AllHome z = with("bb", "a", "d;");
        Due.is("150 are not", z.states(2), 150);
        Due.is("stuck", z.stuck(2), 0);
        AllHome w = with("b2c;3b", "d;", "");
        Due.is("151 are too many", w.states(6), -4);
    }

    private static void howManyHuts() {
        AllHome x = with("", "", "", "");
        Due.is("four", x.states(0), 2);
        Due.is("SUMS of four", x.states(5), 12);
        path(x, 5, 1, 0, 300, 200, 200, 200, 200, 300, 200, 200, 200, 200);
        Due.is("a fifth hut", x.hut(), 4);
        Due.is("five", x.states(0), -4);
        Due.is("stuck", x.stuck(1), -4);
        Due.is("work", x.work(0, 0), -4);
        Due.is("same", x.work(0, 1), -4);
        Due.is("least", x.least(1, 1, -1), -4);
    }

    /** What was gone through is not that of the huts that came since. */
    private static void hutsCome() {
        AllHome x = new AllHome();
        x.way(1);
        Due.is("no hut", x.states(0), -5);
        Due.is("no hut", x.least(0, 0, -1), -5);
        Due.is("no hut", x.stuck(0), -5);
        Due.is("no hut", x.work(0, 0), -5);
        Due.is("no hut", x.work(0, 1), -5);
        Due.hut(x, "b");
        Due.is("nobody there", x.states(0), 3);
        Due.is("same", x.work(0, 1), 1);
        Due.is("a fault", Due.hut(x, "b"), -100);
        Due.is("nobody there yet", x.states(0), 3);
        Due.hut(x, "");
        Due.is("b is there", x.states(0), 9);
        Due.is("work", x.work(0, 0), 7);
        Due.is("same", x.work(0, 1), 1);
    }

    /** Runs, and what is lost in them, change nothing here; nor the other way round. */
    private static void apartFromRuns() {
        AllHome x = with("b", "");
        x.run(1);
        Due.go(x, 0, 0, 400);
        Due.is("states", x.states(1), 9);
        Due.is("steps of the run", x.ofRun(0, 1), 2);
        Due.is("units in the run", x.ofHut(0, 0, 3), 32);
        Due.is("words in the run", x.ofRun(0, 2), 0);
    }

    private static void bad() {
        AllHome x = new AllHome();
        Due.is("a wrong way is named first", x.states(0), -1);
        Due.is("least", x.least(0, 0, -1), -1);
        Due.is("stuck", x.stuck(0), -1);
        Due.is("work", x.work(0, 0), -1);
        x.way(1);
        Due.is("what -1, no hut", x.least(0, -1, -1), -1);
        Due.is("what 2, no hut", x.work(0, 2), -1);
        Due.hut(x, "");
        for (int way : new int[] {-1, 1, 10}) {
            Due.is("states", x.states(way), -1);
            Due.is("least", x.least(way, 0, -1), -1);
            Due.is("stuck", x.stuck(way), -1);
            Due.is("work", x.work(way, 0), -1);
        }
        Due.is("what -1", x.least(0, -1, -1), -1);
        Due.is("what 2", x.least(0, 2, -1), -1);
        Due.is("i -2", x.least(0, 1, -2), -1);
        Due.is("what -1", x.work(0, -1), -1);
        Due.is("what 2", x.work(0, 2), -1);
    }

    public static void main(String[] args) {
        oneHut();
        wordToNobody();
        oneWord();
        fooled();
        someStuck();
        howMany();
        howManyHuts();
        hutsCome();
        apartFromRuns();
        bad();
        Due.end("OrdersTest");
    }
}
