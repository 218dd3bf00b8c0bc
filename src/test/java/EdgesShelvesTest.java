import java.util.function.Supplier;

/** The edges of terms 4 and of promises 20 to 28: acts, shelves, counts. */
public final class EdgesShelvesTest {
    private static final Supplier<AllHome> NO_RUN = Scenes::noRun;
    private static final Supplier<AllHome> MID_RUN = () -> Scenes.midRun(2);
    private static final Supplier<AllHome> ALL_FULL = Scenes::allFull;
    private static final Supplier<AllHome> ROWS = () -> rows();
    private static final long NO = Long.MIN_VALUE;

    private static AllHome allKinds() {
        AllHome x = new AllHome();
        for (int kind = 0; kind < 9; kind++) {
            x.way(kind);
        }
        return x;
    }

    // ---- promise 20: x wraps, / cuts; 0 and no trace where there is no such way or act

    private static void noActNoTrace() {
        int[][] none = {{9, 0}, {10, 0}, {-1, 0}, {Integer.MIN_VALUE, 0}, {Integer.MAX_VALUE, 0}, {0, 4}, {0, 5},
            {0, -1}, {0, Integer.MIN_VALUE}, {0, Integer.MAX_VALUE}, {9, 4}, {-1, -1}};
        for (int[] n : none) {
            for (int number : new int[] {0, 7, Integer.MIN_VALUE, Integer.MAX_VALUE, -1}) {
                AllHome x = allKinds();
                x.act(7, 3, 5);
                Due.is("nine bodies ran", x.count(4), 9);
                Due.is("act(" + n[0] + ", " + n[1] + ", " + number + ")", x.act(n[0], n[1], number), 0);
                Due.is("none ran", x.count(4), 0);
                Due.is("no trace", x.trace(0), -1);
                Due.is("nine ways", x.count(1), 9);
            }
        }
        AllHome y = new AllHome();
        Due.is("no way yet", y.act(0, 0, 1), 0);
        Due.is("none ran", y.count(4), 0);
    }

    private static void actsFromNoneToThree() {
        AllHome x = allKinds();
        int[][] want = {{5, 10, 5, 5 * 2 - 1}, {3, 6, 4, 6}};
        for (int act = 0; act < 4; act++) {
            Due.is("WAY's act " + act, x.act(0, act, 5), want[0][act]);
            Due.is("LANTERN's act " + act, x.act(1, act, 5), want[1][act]);
        }
    }

    /** x + n, * 2, * 3, - 1 and - all wrap. */
    private static void xWraps() {
        int max = Integer.MAX_VALUE;
        int min = Integer.MIN_VALUE;
        AllHome x = allKinds();
        Due.is("x + n at the top", x.act(8, 0, max), min + 7);
        Due.is("x + n at the foot", x.act(8, 0, min), min + 8);
        Due.is("sends of -1", x.act(8, 0, -1), 7);
        Due.is("* 2 at the top", x.act(0, 1, max), -2);
        Due.is("* 2 at the foot", x.act(0, 1, min), 0);
        Due.is("* 2 and - 1 at the foot", x.act(3, 1, min), 5);
        Due.is("* 3 at the top", x.act(4, 0, max), (max + 4) * 3);
        Due.is("* 3 at the foot", x.act(4, 0, min), min + 12);
        Due.is("^ at the top", x.act(8, 2, max), min ^ 8);
        Due.is("^ at the foot", x.act(0, 2, min), min);
        Due.is("x + 1 at the top", x.act(5, 2, max), min ^ 5);
        // STICK: (x ^ 2) + sends(2), by LOOSE below 0.
        Due.is("+ at the top", x.act(2, 2, max), (max ^ 2) + 4);
        Due.is("- of it", x.act(6, 2, max), -((max ^ 6) + 8));
        Due.is("tells at the foot", x.act(0, 3, min), -1);
        Due.is("tells at the top", x.act(0, 3, max), -3);
        Due.is("PALE asks at the top", x.act(7, 1, max), (max + 7) * 3 * 2 - 1 + (max + 7) * 3);
        Due.is("HASTY tells at the top", x.act(8, 3, max), (((max + 8) * 2 - 1 - (2 ^ 8)) ^ 5) * 2);
    }

    /** LOOSE with a sum that is the least number: its - is itself. */
    private static void theLeastNumberStays() {
        AllHome x = allKinds();
        int sum = Integer.MIN_VALUE;
        int number = (sum - 8) ^ 6;
        Due.is("- of the least number", x.act(6, 2, number), sum);
    }

    private static void divisionCuts() {
        AllHome x = allKinds();
        int[][] halves = {{-1, 0}, {0, 0}, {1, 1}, {2, 1}, {-2, 0}, {-3, -1}, {-4, -1}, {-5, -2}, {-6, -2},
            {Integer.MAX_VALUE, Integer.MIN_VALUE / 2}, {Integer.MIN_VALUE, -1073741823},
            {Integer.MAX_VALUE - 1, 1073741823}};
        for (int[] h : halves) {
            Due.is("LANTERN sends " + h[0], x.act(1, 0, h[0]), h[1]);
        }
        // WAY 0 of kind LANTERN: x itself is cut.
        AllHome y = new AllHome();
        y.way(1);
        for (int v : new int[] {-1, -2, -3, 3, Integer.MIN_VALUE, Integer.MAX_VALUE}) {
            Due.is("half of " + v, y.act(0, 0, v), v / 2);
        }
    }

    // ---- promise 21

    private static void theTraceFromItsFirstToItsLast() {
        AllHome x = Scenes.noRun();
        Due.is("seven ran", x.count(4), 7);
        int[] bodies = {80, 40, 10, 50, 1, 50, 1};
        x.act(0, 3, 1);
        Due.is("nine ran", x.count(4), 9);
        Due.is("the first", x.trace(0), 2);
        for (int i = 0; i < 7; i++) {
            Due.is("body " + (i + 1), x.trace(i + 1), bodies[i]);
        }
        Due.is("the last", x.trace(8), 11);
        Due.is("none behind", x.trace(9), -1);
        Edge.refusedFor("trace(i)", NO_RUN, (y, i) -> y.trace(i), -1, 7, 8, 23, 24, 25, 60);
        Edge.refusedForOdd("trace(i)", NO_RUN, (y, i) -> y.trace(i), -1);
    }

    private static void theTraceIsTheLatest() {
        AllHome x = allKinds();
        x.act(7, 3, 5);
        x.act(0, 2, 5);
        Due.is("one ran", x.count(4), 1);
        Due.is("11", x.trace(0), 11);
        Due.is("none of the one ahead", x.trace(1), -1);
    }

    /** The bodies call one another nine deep and wide at most: all are among the first 24, that are kept. */
    private static void allBodiesAreKept() {
        AllHome x = allKinds();
        int most = 0;
        for (int kind = 0; kind < 9; kind++) {
            for (int act = 0; act < 4; act++) {
                x.act(kind, act, 3);
                int ran = x.count(4);
                most = Math.max(most, ran);
                Due.is("the last is kept", x.trace(ran - 1) > 0 ? 1 : 0, 1);
                Due.is("none behind", x.trace(ran), -1);
                Due.is("nor at 23", x.trace(23), -1);
                Due.is("nor at 24", x.trace(24), -1);
            }
        }
        Due.is("the most", most, 9);
    }

    // ---- promise 22

    private static void aWayOrNothingOnAShelf() {
        Edge.refusedFor("keep(shelf, 0)", NO_RUN, (x, shelf) -> x.keep(shelf, 0), -1, 6, 7);
        Edge.refusedForOdd("keep(shelf, 0)", NO_RUN, (x, shelf) -> x.keep(shelf, 0), -1);
        Edge.refusedForOdd("keep(shelf, -1)", NO_RUN, (x, shelf) -> x.keep(shelf, -1), -1);
        for (int shelf = 0; shelf < 6; shelf++) {
            int theShelf = shelf;
            Edge.refusedFor("keep(" + shelf + ", way)", NO_RUN, (x, way) -> x.keep(theShelf, way), -1, 3, 9, 10, -2,
                Integer.MIN_VALUE, Integer.MAX_VALUE);
            AllHome x = Scenes.noRun();
            Due.is("the last way", x.keep(shelf, 2), 1);
            Due.is("is there", x.taken(shelf, 0), 2);
            Due.is("nothing", x.keep(shelf, -1), 1);
            Due.is("is there", x.taken(shelf, 0), -11);
            Due.is("nothing of nothing", x.keep(shelf, -1), 1);
        }
        AllHome y = Scenes.allFull();
        Due.is("way 9", y.keep(5, 9), 1);
        Due.is("its kind", y.taken(5, 0), 0);
    }

    // ---- promise 23

    private static void rowsOfNoneToSixty() {
        for (int sort = 0; sort < 5; sort++) {
            int theSort = sort;
            for (int n : new int[] {0, 1, 59, 60}) {
                AllHome x = new AllHome();
                Due.is("row of " + n, x.row(5, sort, n), 1);
                Due.is("it is no way", x.taken(5, 0), -12);
                Due.is("its last", x.element(5, n - 1), n == 0 ? NO : 0);
                Due.is("behind it", x.element(5, n), NO);
                Due.is("behind it", x.put(5, n, 1), -13);
            }
            Edge.refusedFor("row(3, " + sort + ", n)", NO_RUN, (x, n) -> x.row(3, theSort, n), -1, 61, 62, Integer.MAX_VALUE);
            Edge.refusedFor("row(3, " + sort + ", n)", NO_RUN, (x, n) -> x.row(3, theSort, n), -14, -1, -2, Integer.MIN_VALUE);
        }
        Edge.refusedFor("row(3, sort, 1)", NO_RUN, (x, sort) -> x.row(3, sort, 1), -1, 5, 6);
        Edge.refusedForOdd("row(3, sort, 1)", NO_RUN, (x, sort) -> x.row(3, sort, 1), -1);
        Edge.refusedForOdd("row(3, sort, -1), BAD ahead of -14", NO_RUN, (x, sort) -> x.row(3, sort, -1), -1);
        Edge.refusedFor("row(shelf, 0, 1)", NO_RUN, (x, shelf) -> x.row(shelf, 0, 1), -1, 6, 7);
        Edge.refusedForOdd("row(shelf, 0, 1)", NO_RUN, (x, shelf) -> x.row(shelf, 0, 1), -1);
        Edge.refusedForOdd("row(shelf, 0, -1), BAD ahead of -14", NO_RUN, (x, shelf) -> x.row(shelf, 0, -1), -1);
        Edge.refused("-14 of a shelf with a way", NO_RUN, x -> x.row(1, 0, -1), -14);
        Edge.refused("-14 of a shelf with nothing", NO_RUN, x -> x.row(0, 0, -1), -14);
    }

    private static void aNewRowHasNoneOfTheOld() {
        AllHome x = new AllHome();
        x.row(0, 3, 60);
        for (int i = 0; i < 60; i++) {
            x.put(0, i, -1 - i);
        }
        x.row(0, 3, 3);
        x.row(0, 3, 60);
        for (int i = 0; i < 60; i++) {
            Due.is("element " + i, x.element(0, i), 0);
        }
        x.put(0, 7, 5);
        x.keep(0, -1);
        x.row(0, 4, 60);
        Due.is("behind nothing too", x.element(0, 7), 0);
    }

    // ---- promises 24 and 25

    private static void lowestBits() {
        long[][] bits = {{8, 0}, {16, 1}, {32, 2}};
        for (long[] b : bits) {
            long top = 1L << b[0] - 1;
            long[][] kept = {{top - 1, top - 1}, {top, -top}, {-top, -top}, {-top - 1, top - 1}, {2 * top, 0},
                {2 * top - 1, -1}, {2 * top + 1, 1}, {-2 * top, 0}, {Long.MAX_VALUE, -1}, {Long.MIN_VALUE, 0},
                {Long.MIN_VALUE + 1, 1}, {-1, -1}, {0, 0}};
            for (long[] k : kept) {
                keeps((int) b[1], k[0], k[1]);
            }
        }
        for (long v : new long[] {Long.MAX_VALUE, Long.MIN_VALUE, Long.MIN_VALUE + 1, -1, 0, 1, 1L << 32}) {
            keeps(3, v, v);
            keeps(4, v, v == 0 ? 0 : 1);
        }
        for (long v : new long[] {2, 256, 65536, 1L << 31, 1L << 32, 1L << 63}) {
            keeps(4, v, 1);
        }
    }

    private static void keeps(int sort, long v, long want) {
        AllHome x = new AllHome();
        x.row(0, sort, 60);
        for (int i : new int[] {0, 59}) {
            Due.is("put", x.put(0, i, v), 1);
            Due.is("sort " + sort + " keeps of " + v, x.element(0, i), want);
            Due.is("put over it", x.put(0, i, 0), 1);
            Due.is("none", x.element(0, i), 0);
        }
        Due.is("its neighbour", x.element(0, 1), 0);
    }

    private static void placesThatAreNotThere() {
        for (long v : new long[] {0, 1, Long.MAX_VALUE, Long.MIN_VALUE}) {
            String call = ", " + v + ")";
            Edge.refusedFor("put(2, i" + call, NO_RUN, (x, i) -> x.put(2, i, v), -13, 4, 5, 59, 60);
            Edge.refusedForOdd("put(2, i" + call, NO_RUN, (x, i) -> x.put(2, i, v), -13);
            Edge.refusedForOdd("put(5, i" + call, NO_RUN, (x, i) -> x.put(5, i, v), -13);
            Edge.refused("put(5, 0" + call, NO_RUN, x -> x.put(5, 0, v), -13);
            Edge.refusedForOdd("-11 ahead of -13, put(0, i" + call, NO_RUN, (x, i) -> x.put(0, i, v), -11);
            Edge.refused("put(0, 0" + call, NO_RUN, x -> x.put(0, 0, v), -11);
            Edge.refusedForOdd("-12 ahead of -13, put(1, i" + call, NO_RUN, (x, i) -> x.put(1, i, v), -12);
            Edge.refused("put(1, 0" + call, NO_RUN, x -> x.put(1, 0, v), -12);
            Edge.refusedFor("put(shelf, 0" + call, NO_RUN, (x, shelf) -> x.put(shelf, 0, v), -1, 6, 7);
            Edge.refusedForOdd("put(shelf, 0" + call, NO_RUN, (x, shelf) -> x.put(shelf, 0, v), -1);
            Edge.refusedForOdd("BAD ahead of all, put(shelf, -1" + call, NO_RUN, (x, shelf) -> x.put(shelf, -1, v), -1);
        }
    }

    private static void elementsThatAreNotThere() {
        for (int shelf : new int[] {2, 3, 4, 5}) {
            int[] sizes = {0, 0, 4, 3, 2, 0};
            int theShelf = shelf;
            Edge.refusedFor("element(" + shelf + ", i)", NO_RUN, (x, i) -> x.element(theShelf, i), NO, sizes[shelf], 59, 60);
            Edge.refusedForOdd("element(" + shelf + ", i)", NO_RUN, (x, i) -> x.element(theShelf, i), NO);
        }
        Edge.refused("of a way", NO_RUN, x -> x.element(1, 0), NO);
        Edge.refused("of nothing", NO_RUN, x -> x.element(0, 0), NO);
        Edge.refusedFor("element(shelf, 0)", NO_RUN, (x, shelf) -> x.element(shelf, 0), NO, 6, 7);
        Edge.refusedForOdd("element(shelf, 0)", NO_RUN, (x, shelf) -> x.element(shelf, 0), NO);
    }

    // ---- promise 26

    private static AllHome rows() {
        AllHome x = new AllHome();
        x.way(4);
        x.row(0, 2, 5);
        x.row(1, 2, 3);
        x.row(2, 1, 5);
        x.keep(3, 0);
        x.row(5, 2, 0);
        for (int i = 0; i < 5; i++) {
            x.put(0, i, 10 + i);
            x.put(2, i, 20 + i);
        }
        return x;
    }

    private static void are(AllHome x, int shelf, long... elements) {
        for (int i = 0; i < elements.length; i++) {
            Due.is("element " + i + " of " + shelf, x.element(shelf, i), elements[i]);
        }
        Due.is("its end", x.element(shelf, elements.length), NO);
    }

    private static void shiftsFromEndToEnd() {
        AllHome x = rows();
        Due.is("the last to the last", x.shift(0, 4, 1, 2, 1), 1);
        are(x, 1, 0, 0, 14);
        Due.is("as many as go in", x.shift(0, 2, 1, 0, 3), 3);
        are(x, 1, 12, 13, 14);
        Due.is("as many as there are", x.shift(1, 0, 0, 2, 3), 3);
        are(x, 0, 10, 11, 12, 13, 14);
        Due.is("all upon itself", x.shift(0, 0, 0, 0, 5), 5);
        are(x, 0, 10, 11, 12, 13, 14);
        AllHome up = rows();
        Due.is("up by one, as they were before", up.shift(0, 0, 0, 1, 4), 4);
        are(up, 0, 10, 10, 11, 12, 13);
        AllHome down = rows();
        Due.is("down by one, as they were before", down.shift(0, 1, 0, 0, 4), 4);
        are(down, 0, 11, 12, 13, 14, 14);
    }

    private static void shiftsOfNone() {
        int[][] calls = {{0, 0, 1, 0}, {0, 5, 1, 3}, {0, 5, 0, 5}, {0, 2, 1, 3}, {5, 0, 5, 0}, {0, 5, 5, 0}, {5, 0, 0, 5}};
        for (int[] c : calls) {
            Edge.refused("shift of none", ROWS, x -> x.shift(c[0], c[1], c[2], c[3], 0), 0);
        }
        Edge.refused("one behind the end", ROWS, x -> x.shift(0, 6, 1, 0, 0), -13);
        Edge.refused("one behind the other end", ROWS, x -> x.shift(0, 0, 1, 4, 0), -13);
        Edge.refused("one behind none", ROWS, x -> x.shift(5, 1, 0, 0, 0), -13);
        Edge.refused("ahead of the first", ROWS, x -> x.shift(0, -1, 1, 0, 0), -13);
        Edge.refused("ahead of the other's first", ROWS, x -> x.shift(0, 0, 1, -1, 0), -13);
        Edge.refused("none of nothing", ROWS, x -> x.shift(4, 0, 4, 0, 0), -11);
        Edge.refused("none of a way", ROWS, x -> x.shift(3, 0, 3, 0, 0), -12);
        Edge.refused("none of unlike ones", ROWS, x -> x.shift(0, 0, 2, 0, 0), -12);
    }

    private static void shiftsToPlacesThatAreNotThere() {
        Edge.refusedFor("shift(0, i, 1, 0, 1)", ROWS, (x, i) -> x.shift(0, i, 1, 0, 1), -13, 5, 6, 60);
        Edge.refusedForOdd("shift(0, i, 1, 0, 1)", ROWS, (x, i) -> x.shift(0, i, 1, 0, 1), -13);
        Edge.refusedFor("shift(0, 0, 1, j, 1)", ROWS, (x, j) -> x.shift(0, 0, 1, j, 1), -13, 3, 4, 60);
        Edge.refusedForOdd("shift(0, 0, 1, j, 1)", ROWS, (x, j) -> x.shift(0, 0, 1, j, 1), -13);
        Edge.refusedFor("shift(0, 0, 1, 0, n)", ROWS, (x, n) -> x.shift(0, 0, 1, 0, n), -13, 4, 5, 6, 61);
        Edge.refusedForOdd("shift(0, 0, 1, 0, n)", ROWS, (x, n) -> x.shift(0, 0, 1, 0, n), -13);
        Edge.refusedForOdd("shift(0, n, 1, n, n)", ROWS, (x, n) -> x.shift(0, n, 1, n, n), -13);
        Edge.refusedForOdd("shift(0, 1, 0, 2, n)", ROWS, (x, n) -> x.shift(0, 1, 0, 2, n), -13);
        Edge.refused("one more than there are", ROWS, x -> x.shift(0, 3, 1, 0, 3), -13);
        Edge.refused("one more than go in", ROWS, x -> x.shift(0, 0, 1, 1, 3), -13);
        Edge.refused("one too many in the same", ROWS, x -> x.shift(0, 0, 0, 1, 5), -13);
    }

    private static void shiftsOfShelvesThatDoNotFit() {
        Edge.refusedFor("shift(shelf, 0, 1, 0, 1)", ROWS, (x, shelf) -> x.shift(shelf, 0, 1, 0, 1), -1, 6, 7);
        Edge.refusedForOdd("shift(shelf, 0, 1, 0, 1)", ROWS, (x, shelf) -> x.shift(shelf, 0, 1, 0, 1), -1);
        Edge.refusedFor("shift(0, 0, other, 0, 1)", ROWS, (x, other) -> x.shift(0, 0, other, 0, 1), -1, 6, 7);
        Edge.refusedForOdd("shift(0, 0, other, 0, 1)", ROWS, (x, other) -> x.shift(0, 0, other, 0, 1), -1);
        Edge.refusedForOdd("BAD ahead of -11, shift(4, 0, other, 0, 1)", ROWS, (x, other) -> x.shift(4, 0, other, 0, 1), -1);
        Edge.refusedForOdd("BAD ahead of -12, shift(other, 0, 3, 0, 1)", ROWS, (x, other) -> x.shift(other, 0, 3, 0, 1), -1);
        for (int n : new int[] {1, -1, Integer.MIN_VALUE, Integer.MAX_VALUE}) {
            int[][] nothing = {{4, 0}, {0, 4}, {4, 3}, {3, 4}, {4, 4}};
            for (int[] s : nothing) {
                Edge.refused("-11 of " + s[0] + " and " + s[1] + ", " + n, ROWS, x -> x.shift(s[0], n, s[1], n, n), -11);
            }
            int[][] unlike = {{3, 0}, {0, 3}, {3, 3}, {0, 2}, {2, 0}, {2, 5}, {5, 2}};
            for (int[] s : unlike) {
                Edge.refused("-12 of " + s[0] + " and " + s[1] + ", " + n, ROWS, x -> x.shift(s[0], n, s[1], n, n), -12);
            }
        }
    }

    private static void rowsOfLikeSortsAlone() {
        for (int sort = 0; sort < 5; sort++) {
            for (int other = 0; other < 5; other++) {
                AllHome x = new AllHome();
                x.row(0, sort, 60);
                x.row(1, other, 60);
                x.put(0, 0, 1);
                x.put(0, 59, 1);
                Due.is("sort " + sort + " to " + other, x.shift(0, 0, 1, 0, 60), sort == other ? 60 : -12);
                Due.is("the first", x.element(1, 0), sort == other ? 1 : 0);
                Due.is("the last", x.element(1, 59), sort == other ? 1 : 0);
            }
        }
    }

    // ---- promises 27 and 28

    private static void takenForAKind() {
        int[] above = {-1, 0, 0, 0, 3, 3, 2, 4, 5};
        for (int kind = 0; kind < 9; kind++) {
            int theKind = kind;
            Supplier<AllHome> kept = () -> {
                AllHome x = allKinds();
                x.keep(5, theKind);
                return x;
            };
            for (int k = 0; k < 9; k++) {
                boolean under = false;
                for (int up = kind; up >= 0; up = above[up]) {
                    under |= up == k;
                }
                int theK = k;
                Edge.refused("kind " + kind + " for " + k, kept, x -> x.taken(5, theK), under ? kind : -12);
            }
            Edge.refusedFor("kind " + kind + " for k", kept, (x, k) -> x.taken(5, k), -1, 9, 10);
            Edge.refusedForOdd("kind " + kind + " for k", kept, (x, k) -> x.taken(5, k), -1);
        }
    }

    private static void takenFromAShelf() {
        Edge.refusedFor("taken(shelf, 0)", NO_RUN, (x, shelf) -> x.taken(shelf, 0), -1, 6, 7);
        Edge.refusedForOdd("taken(shelf, 0)", NO_RUN, (x, shelf) -> x.taken(shelf, 0), -1);
        Edge.refusedForOdd("BAD ahead of -11, taken(0, k)", NO_RUN, (x, k) -> x.taken(0, k), -1);
        Edge.refusedForOdd("BAD ahead of -12, taken(2, k)", NO_RUN, (x, k) -> x.taken(2, k), -1);
        Edge.refusedFor("taken(0, k)", NO_RUN, (x, k) -> x.taken(0, k), -11, 0, 8);
        Edge.refusedFor("taken(2, k)", NO_RUN, (x, k) -> x.taken(2, k), -12, 0, 8);
        Edge.refusedFor("taken(5, k)", NO_RUN, (x, k) -> x.taken(5, k), -12, 0, 8);
    }

    private static void countsFromNoneToFour() {
        int[][] want = {{3, 3, 0, 2, 7}, {2, 3, 2, 2, 6}, {6, 10, 4, 60, 0}};
        AllHome[] objects = {Scenes.noRun(), Scenes.midRun(2), Scenes.allFull()};
        for (int k = 0; k < 3; k++) {
            for (int what = 0; what < 5; what++) {
                Due.is("count " + what, objects[k].count(what), want[k][what]);
            }
        }
        for (Supplier<AllHome> made : java.util.List.of(NO_RUN, MID_RUN, ALL_FULL)) {
            Edge.refusedFor("count(what)", made, (x, what) -> x.count(what), -1, 5, 6);
            Edge.refusedForOdd("count(what)", made, (x, what) -> x.count(what), -1);
        }
    }

    public static void main(String[] args) {
        noActNoTrace();
        actsFromNoneToThree();
        xWraps();
        theLeastNumberStays();
        divisionCuts();
        theTraceFromItsFirstToItsLast();
        theTraceIsTheLatest();
        allBodiesAreKept();
        aWayOrNothingOnAShelf();
        rowsOfNoneToSixty();
        aNewRowHasNoneOfTheOld();
        lowestBits();
        placesThatAreNotThere();
        elementsThatAreNotThere();
        shiftsFromEndToEnd();
        shiftsOfNone();
        shiftsToPlacesThatAreNotThere();
        shiftsOfShelvesThatDoNotFit();
        rowsOfLikeSortsAlone();
        takenForAKind();
        takenFromAShelf();
        countsFromNoneToFour();
        Due.end("EdgesShelvesTest");
    }
}
