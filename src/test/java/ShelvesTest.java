/** Promises 22 to 28: shelves with ways and rows, what is taken and shifted, and the counts. */
public final class ShelvesTest {
    private static final long NO = Long.MIN_VALUE;

    private static void keep() {
        AllHome x = new AllHome();
        x.way(4);
        x.way(6);
        Due.is("shelf 6", x.keep(6, 0), -1);
        Due.is("shelf -1", x.keep(-1, 0), -1);
        Due.is("way 2", x.keep(0, 2), -1);
        Due.is("way -2", x.keep(0, -2), -1);
        Due.is("still nothing", x.taken(0, 0), -11);
        Due.is("keep", x.keep(0, 1), 1);
        Due.is("LOOSE", x.taken(0, 6), 6);
        Due.is("another way", x.keep(0, 0), 1);
        Due.is("STONE", x.taken(0, 4), 4);
        Due.is("refused", x.keep(0, 7), -1);
        Due.is("STONE stays", x.taken(0, 4), 4);
        Due.is("a row in its place", x.row(0, 2, 3), 1);
        Due.is("no way any more", x.taken(0, 0), -12);
        Due.is("a way in its place", x.keep(0, 0), 1);
        Due.is("no row any more", x.put(0, 0, 1), -12);
        Due.is("nothing", x.keep(0, -1), 1);
        Due.is("taken", x.taken(0, 0), -11);
        Due.is("nothing again", x.keep(5, -1), 1);
    }

    private static void row() {
        AllHome x = new AllHome();
        Due.is("shelf -1", x.row(-1, 0, 1), -1);
        Due.is("shelf 6", x.row(6, 0, 1), -1);
        Due.is("sort -1", x.row(0, -1, 1), -1);
        Due.is("sort 5", x.row(0, 5, 1), -1);
        Due.is("61", x.row(0, 0, 61), -1);
        Due.is("below 0", x.row(0, 0, -1), -14);
        Due.is("far below 0", x.row(0, 0, Integer.MIN_VALUE), -14);
        Due.is("a wrong sort is named first", x.row(0, 5, -1), -1);
        Due.is("nothing there", x.put(0, 0, 1), -11);
        Due.is("60", x.row(0, 0, 60), 1);
        Due.is("the last", x.put(0, 59, 7), 1);
        Due.is("behind it", x.put(0, 60, 7), -13);
        Due.is("refused", x.row(0, 0, -1), -14);
        Due.is("it stays", x.element(0, 59), 7);
        Due.is("the first is 0", x.element(0, 0), 0);
        Due.is("a new one", x.row(0, 0, 60), 1);
        Due.is("all is 0", x.element(0, 59), 0);
        Due.is("none", x.row(0, 3, 0), 1);
        Due.is("no place", x.element(0, 0), NO);
        Due.is("no place", x.put(0, 0, 5), -13);
    }

    private static void holds(int sort, long v, long kept) {
        AllHome x = new AllHome();
        x.row(3, sort, 2);
        Due.is("put", x.put(3, 1, v), 1);
        Due.is("sort " + sort + " keeps of " + v, x.element(3, 1), kept);
        Due.is("the other stays", x.element(3, 0), 0);
    }

    private static void put() {
        holds(0, 127, 127);
        holds(0, 128, -128);
        holds(0, -129, 127);
        holds(0, 256, 0);
        holds(1, 32767, 32767);
        holds(1, 32768, -32768);
        holds(1, 65536, 0);
        holds(1, -1, -1);
        holds(2, Integer.MAX_VALUE, Integer.MAX_VALUE);
        holds(2, Integer.MAX_VALUE + 1L, Integer.MIN_VALUE);
        holds(2, 1L << 32, 0);
        holds(3, Long.MAX_VALUE, Long.MAX_VALUE);
        holds(3, Long.MIN_VALUE, Long.MIN_VALUE);
        holds(4, 0, 0);
        holds(4, 1, 1);
        holds(4, -5, 1);
        holds(4, 256, 1);
        holds(4, 1L << 32, 1);
        AllHome x = new AllHome();
        x.way(0);
        x.keep(1, 0);
        x.row(2, 2, 3);
        x.put(2, 0, 9);
        long[][] refused = {{-1, 0, -1}, {6, 0, -1}, {0, 0, -11}, {0, -1, -11}, {1, 0, -12}, {1, -1, -12},
            {2, 3, -13}, {2, -1, -13}, {2, Integer.MAX_VALUE, -13}};
        for (long[] r : refused) {
            Due.is("put " + r[0] + " " + r[1], x.put((int) r[0], (int) r[1], 5), r[2]);
            Due.is("element " + r[0] + " " + r[1], x.element((int) r[0], (int) r[1]), NO);
        }
        Due.is("element", x.element(2, 0), 9);
        Due.is("element", x.element(2, 2), 0);
    }

    private static AllHome rows() {
        AllHome x = new AllHome();
        x.way(1);
        x.row(0, 2, 5);
        x.row(1, 2, 3);
        x.row(2, 1, 5);
        x.keep(3, 0);
        for (int i = 0; i < 5; i++) {
            x.put(0, i, 10 + i);
        }
        return x;
    }

    private static void are(AllHome x, int shelf, long... elements) {
        for (int i = 0; i < elements.length; i++) {
            Due.is("element " + i + " of " + shelf, x.element(shelf, i), elements[i]);
        }
        Due.is("its end", x.element(shelf, elements.length), NO);
    }

    private static void shift() {
        AllHome x = rows();
        Due.is("to another", x.shift(0, 1, 1, 0, 3), 3);
        are(x, 1, 11, 12, 13);
        are(x, 0, 10, 11, 12, 13, 14);
        Due.is("up in the same", x.shift(0, 0, 0, 1, 4), 4);
        are(x, 0, 10, 10, 11, 12, 13);
        Due.is("down in the same", x.shift(0, 1, 0, 0, 4), 4);
        are(x, 0, 10, 11, 12, 13, 13);
        Due.is("none", x.shift(0, 5, 1, 3, 0), 0);
        Due.is("none in the midst", x.shift(0, 2, 1, 1, 0), 0);
        int[][] refused = {
            {-1, 0, 1, 0, 1, -1}, {6, 0, 1, 0, 1, -1}, {0, 0, -1, 0, 1, -1}, {0, 0, 6, 0, 1, -1},
            {4, 0, 9, 0, 1, -1}, {4, 0, 1, 0, 1, -11}, {0, 0, 4, 0, 1, -11}, {3, 0, 4, 0, 1, -11},
            {4, 0, 3, 0, 1, -11}, {3, 0, 1, 0, 1, -12}, {0, 0, 3, 0, 1, -12}, {3, 0, 3, 0, 0, -12},
            {0, 0, 2, 0, 1, -12}, {2, 0, 0, 0, 1, -12}, {0, 9, 2, 0, 1, -12},
            {0, -1, 1, 0, 1, -13}, {0, 0, 1, -1, 1, -13}, {0, 5, 1, 0, 1, -13}, {0, 0, 1, 3, 1, -13},
            {0, 3, 1, 0, 3, -13}, {0, 0, 1, 0, 4, -13}, {0, 6, 1, 0, 0, -13}, {0, 0, 1, 4, 0, -13},
            {0, Integer.MAX_VALUE, 1, 0, 1, -13}, {0, 1, 1, 0, Integer.MAX_VALUE, -13},
            {0, 0, 1, Integer.MAX_VALUE, 2, -13}, {0, 0, 1, 0, -1, -13},
            {0, 0, 1, 0, Integer.MIN_VALUE, -13},
        };
        for (int[] r : refused) {
            Due.is("shift " + java.util.Arrays.toString(r), x.shift(r[0], r[1], r[2], r[3], r[4]), r[5]);
        }
        are(x, 0, 10, 11, 12, 13, 13);
        are(x, 1, 11, 12, 13);
        are(x, 2, 0, 0, 0, 0, 0);
        AllHome y = new AllHome();
        y.row(0, 0, 2);
        y.row(1, 4, 2);
        Due.is("bytes are no booleans", y.shift(0, 0, 1, 0, 1), -12);
        y.row(1, 0, 2);
        y.put(0, 0, -3);
        Due.is("bytes are bytes", y.shift(0, 0, 1, 1, 1), 1);
        are(y, 1, 0, -3);
    }

    private static void taken() {
        AllHome x = new AllHome();
        boolean[][] under = new boolean[9][9];
        int[] above = {-1, 0, 0, 0, 3, 3, 2, 4, 5};
        for (int kind = 0; kind < 9; kind++) {
            x.way(kind);
            for (int up = kind; up >= 0; up = above[up]) {
                under[kind][up] = true;
            }
        }
        for (int kind = 0; kind < 9; kind++) {
            x.keep(2, kind);
            for (int k = 0; k < 9; k++) {
                Due.is("kind " + kind + " taken for " + k, x.taken(2, k), under[kind][k] ? kind : -12);
            }
            Due.is("taken for -1", x.taken(2, -1), -1);
            Due.is("taken for 9", x.taken(2, 9), -1);
        }
        Due.is("shelf -1", x.taken(-1, 0), -1);
        Due.is("shelf 6", x.taken(6, 0), -1);
        Due.is("nothing", x.taken(0, 3), -11);
        Due.is("a wrong kind is named first", x.taken(0, 9), -1);
        x.row(0, 4, 0);
        Due.is("a row", x.taken(0, 0), -12);
        AllHome y = new AllHome();
        y.way(8);
        y.keep(0, 0);
        Due.is("its kind, not its number", y.taken(0, 5), 8);
    }

    private static void count() {
        AllHome x = Due.withHuts("b", "", "");
        for (int k = 0; k < 5; k++) {
            x.way(k);
        }
        x.run(1);
        x.run(2);
        Due.feed(x, "zzzz");
        x.act(4, 1, 3);
        int[] want = {3, 5, 2, 4, 4};
        for (int what = 0; what < 5; what++) {
            Due.is("count " + what, x.count(what), want[what]);
        }
        Due.is("count 5", x.count(5), -1);
        Due.is("count -1", x.count(-1), -1);
    }

    public static void main(String[] args) {
        keep();
        row();
        put();
        shift();
        taken();
        count();
        Due.end("ShelvesTest");
    }
}
