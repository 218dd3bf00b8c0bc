/** Promises 20, 21 and the bodies of 28: acts, and the trace of the bodies that ran. */
public final class ActsTest {
    /** An object with ways of kinds 0 .. 8, so that number and kind are the same. */
    private static AllHome allKinds() {
        AllHome x = new AllHome();
        for (int kind = 0; kind < 9; kind++) {
            x.way(kind);
        }
        return x;
    }

    private static void ran(AllHome x, int way, int act, int number, int answer, int... bodies) {
        String where = "act(" + way + ", " + act + ", " + number + ")";
        Due.is(where, x.act(way, act, number), answer);
        Due.is(where + " count", x.count(4), bodies.length);
        for (int i = 0; i < bodies.length; i++) {
            Due.is(where + " trace " + i, x.trace(i), bodies[i]);
        }
        Due.is(where + " trace behind", x.trace(bodies.length), -1);
        Due.is(where + " trace -1", x.trace(-1), -1);
    }

    private static void eachAct(AllHome x) {
        // sends: x + n; LANTERN half, STONE and PALE three times.
        ran(x, 0, 0, 7, 7, 1);
        ran(x, 1, 0, 7, 4, 20, 1);
        ran(x, 1, 0, -4, -1, 20, 1);
        ran(x, 2, 0, 7, 9, 1);
        ran(x, 3, 0, 7, 10, 1);
        ran(x, 4, 0, 7, 33, 50, 1);
        ran(x, 5, 0, 7, 12, 1);
        ran(x, 6, 0, 7, 13, 1);
        ran(x, 7, 0, 7, 42, 50, 1);
        ran(x, 8, 0, 7, 15, 1);
        // asks: sends(x) * 2, by the sends of its own kind; under RING 1 less.
        ran(x, 0, 1, 3, 6, 10, 1);
        ran(x, 1, 1, 4, 4, 10, 20, 1);
        ran(x, 2, 1, 3, 10, 10, 1);
        ran(x, 3, 1, 3, 11, 40, 10, 1);
        ran(x, 4, 1, 3, 41, 40, 10, 50, 1);
        ran(x, 5, 1, 3, 15, 40, 10, 1);
        ran(x, 6, 1, 3, 18, 10, 1);
        ran(x, 7, 1, 3, 89, 80, 40, 10, 50, 1, 50, 1);
        ran(x, 8, 1, 3, 21, 40, 10, 1);
        // owes: x ^ n; STICK with sends(2) more; SUMS of x + 1; LOOSE that of STICK below 0.
        ran(x, 0, 2, 5, 5, 11);
        ran(x, 1, 2, 5, 4, 11);
        ran(x, 2, 2, 5, 11, 30, 11, 1);
        ran(x, 3, 2, 5, 6, 11);
        ran(x, 4, 2, 5, 1, 11);
        ran(x, 5, 2, 5, 3, 61, 11);
        ran(x, 6, 2, 5, -11, 70, 30, 11, 1);
        ran(x, 7, 2, 5, 2, 11);
        ran(x, 8, 2, 5, 14, 61, 11);
        // tells: asks(x) - owes(1), by those of its own kind; SUMS ^ 5, HASTY that twice.
        ran(x, 0, 3, 5, 9, 2, 10, 1, 11);
        ran(x, 1, 3, 5, 6, 2, 10, 20, 1, 11);
        ran(x, 2, 3, 5, 7, 2, 10, 1, 30, 11, 1);
        ran(x, 3, 3, 5, 13, 2, 40, 10, 1, 11);
        ran(x, 4, 3, 5, 48, 2, 40, 10, 50, 1, 11);
        ran(x, 5, 3, 5, (19 - 7) ^ 5, 60, 2, 40, 10, 1, 61, 11);
        ran(x, 6, 3, 5, 37, 2, 10, 1, 70, 30, 11, 1);
        ran(x, 7, 3, 5, 101, 2, 80, 40, 10, 50, 1, 50, 1, 11);
        ran(x, 8, 3, 5, ((25 - 10) ^ 5) * 2, 90, 60, 2, 40, 10, 1, 61, 11);
    }

    private static void wraps(AllHome x) {
        ran(x, 2, 0, Integer.MAX_VALUE, Integer.MIN_VALUE + 1, 1);
        ran(x, 1, 0, Integer.MAX_VALUE, Integer.MIN_VALUE / 2, 20, 1);
        ran(x, 5, 2, Integer.MAX_VALUE, Integer.MIN_VALUE ^ 5, 61, 11);
        ran(x, 0, 1, Integer.MIN_VALUE, 0, 10, 1);
        ran(x, 4, 0, 1 << 30, -1073741824 + 12, 50, 1);
    }

    private static void none(AllHome x) {
        ran(x, 9, 0, 3, 0);
        x.act(8, 3, 5);
        ran(x, -1, 0, 3, 0);
        x.act(8, 3, 5);
        ran(x, 0, 4, 3, 0);
        x.act(8, 3, 5);
        ran(x, 0, -1, 3, 0);
        x.act(8, 3, 5);
        x.way(1);
        x.kindOf(3);
        Due.is("other calls leave the trace", x.trace(0), 90);
        Due.is("and its length", x.count(4), 8);
        Due.is("trace 24", x.trace(24), -1);
    }

    private static void numberIsTheWays() {
        AllHome x = new AllHome();
        for (int k = 0; k < 10; k++) {
            x.way(4);
        }
        ran(x, 9, 0, 1, 30, 50, 1);
        ran(x, 9, 2, 1, 8, 11);
        ran(x, 0, 2, 1, 1, 11);
    }

    public static void main(String[] args) {
        AllHome x = allKinds();
        eachAct(x);
        wraps(x);
        none(x);
        numberIsTheWays();
        Due.end("ActsTest");
    }
}
