/** Objects in the midst of their use, made anew each time: what the tests of edges start from. */
final class Scenes {
    private Scenes() {
    }

    /** Three huts, three ways, shelves of all kinds, a trace, two bytes on the tape; no run yet. */
    static AllHome noRun() {
        AllHome x = Due.withHuts("b2c;b", "a;c", "b");
        x.way(7);
        x.way(1);
        x.way(2);
        shelves(x);
        x.act(0, 1, 3);
        Due.feed(x, "a2");
        return x;
    }

    private static void shelves(AllHome x) {
        x.keep(1, 0);
        x.row(2, 1, 4);
        x.row(3, 3, 3);
        x.row(4, 4, 2);
        x.row(5, 0, 0);
        // Shorts that would be steps: a goes on, and a word comes.
        x.put(2, 0, 0);
        x.put(2, 1, 100);
        x.put(3, 0, Long.MAX_VALUE);
        x.put(3, 2, -7);
        x.put(4, 1, 1);
    }

    /** The same with two huts, a way of the kind and two runs of it, with words (and notes) on the way. */
    static AllHome midRun(int kind) {
        AllHome x = Due.withHuts("3b;b", "2a;a;a");
        x.way(kind);
        x.way(7);
        x.way(1);
        shelves(x);
        x.act(0, 3, 5);
        x.run(0);
        x.run(0);
        Due.go(x, 0, 0, 0, 100, 100, 1, 0, 0);
        Due.go(x, 1, 0, 0, 0, 0);
        // Ring ways have a note on the way then, the others refuse it; a lantern has one behind b's falling asleep.
        x.step(1, 3, 0);
        Due.go(x, 1, 100, 1, 1, 1);
        Due.feed(x, "a2");
        return x;
    }

    /** All numbers are given away: six huts, ten ways, four runs, sixty bytes. */
    static AllHome allFull() {
        AllHome x = Due.withHuts("bcdef", "a", "a", "a", "a", "a");
        for (int way = 0; way < 10; way++) {
            x.way(way % 9);
        }
        for (int run = 0; run < 4; run++) {
            x.run(run);
            x.step(run, 0, 0);
        }
        sixtyBytes(x);
        return x;
    }

    /** Six huts, no run, and a tape that would be a fault. */
    static AllHome sixHuts() {
        AllHome x = Due.withHuts("b", "a", "a", "a", "a", "a");
        x.way(1);
        Due.feed(x, "a2");
        return x;
    }

    static void sixtyBytes(AllHome x) {
        for (int k = 0; k < 15; k++) {
            x.feed(4, 0x3b3b3b3b);
        }
    }

    /** Two huts and a tape of sixty bytes; no run. */
    static AllHome fullTape() {
        AllHome x = Due.withHuts("b", "a");
        x.way(3);
        sixtyBytes(x);
        return x;
    }

    /** Three ways and no hut. */
    static AllHome noHut() {
        AllHome x = new AllHome();
        x.way(1);
        x.way(4);
        x.way(0);
        x.keep(0, 1);
        return x;
    }
}
