/** Promises 8 to 15: runs of each kind of way, step by step. */
public final class RunsTest {
    private static final int VOID = -2000000000;

    private static AllHome with(int kind, String... programs) {
        AllHome x = Due.withHuts(programs);
        Due.is("way", x.way(kind), 0);
        Due.is("run", x.run(0), 0);
        return x;
    }

    /** What of(0 ..) answers, from a first what on. */
    private static void hut(AllHome x, int h, int first, int... want) {
        for (int k = 0; k < want.length; k++) {
            Due.is("hut " + h + " what " + (first + k), x.ofHut(0, h, first + k), want[k]);
        }
    }

    private static void ofRun(AllHome x, int first, int... want) {
        for (int k = 0; k < want.length; k++) {
            Due.is("ofRun " + (first + k), x.ofRun(0, first + k), want[k]);
        }
    }

    private static void word(AllHome x, int i, int from, int to, int units) {
        Due.is("word from", x.word(0, i, 0), from);
        Due.is("word to", x.word(0, i, 1), to);
        Due.is("word units", x.word(0, i, 2), units);
    }

    private static void note(AllHome x, int i, int to, int first, int second) {
        Due.is("note to", x.note(0, i, 0), to);
        Due.is("note first", x.note(0, i, 1), first);
        Due.is("note second", x.note(0, i, 2), second);
    }

    private static void run() {
        AllHome x = new AllHome();
        Due.is("no way", x.run(0), -1);
        x.way(0);
        x.way(1);
        Due.is("no hut", x.run(0), -5);
        Due.is("no way 2", x.run(2), -1);
        x.hut();
        for (int r = 0; r < 4; r++) {
            Due.is("run", x.run(r % 2), r);
        }
        Due.is("a fifth", x.run(0), -3);
        Due.is("a wrong way is named first", x.run(-1), -1);
        for (int r = 0; r < 4; r++) {
            Due.is("its way", x.ofRun(r, 0), r % 2);
        }
        Due.is("step of run 2", x.step(2, 0, 0), 1);
        Due.is("run 0 stays", x.ofRun(0, 1), 0);
        Due.is("run 3 stays", x.ofHut(3, 0, 0), 1);
    }

    /** Huts and words alone, with WAY. */
    private static void huts() {
        AllHome x = with(0, "bc;2b", "a", "");
        ofRun(x, 0, 0, 0, 0, 0, 0, 0, 1, 0, 0, -2, -2);
        hut(x, 0, 0, 1, 1, 0);
        hut(x, 1, 0, 0, 0, 0);
        int[][] refused = {{-1, 0, 0, -1}, {1, 0, 0, -1}, {0, -1, 0, -1}, {0, 5, 0, -1}, {0, 0, -1, -5}, {0, 0, 1, -5},
            {0, 0, 3, -5}, {0, 1, 0, -5}, {0, 1, -1, -5}, {0, 2, 0, -5}, {0, 2, -1, -5}, {0, 3, 0, -5}, {0, 4, 0, -5},
            {0, 4, -1, -5}, {0, 0, Integer.MAX_VALUE, -5}};
        for (int[] r : refused) {
            Due.is("step " + r[0] + " " + r[1] + " " + r[2], x.step(r[0], r[1], r[2]), r[3]);
        }
        Due.go(x, 0, 0, 0);
        ofRun(x, 1, 2, 2, 0, 0, 0, 1, 2, 0);
        hut(x, 0, 0, 1, 1, 2);
        word(x, 0, 0, 1, 0);
        word(x, 1, 0, 2, 0);
        Due.is("word 2", x.word(0, 2, 0), -1);
        Due.is("word -1", x.word(0, -1, 0), -1);
        Due.is("what 3", x.word(0, 0, 3), -1);
        Due.is("what -1", x.word(0, 0, -1), -1);
        Due.is("run 1", x.word(1, 0, 0), -1);
        Due.is("no note", x.note(0, 0, 0), VOID);
        Due.is("word 2 is none", x.step(0, 1, 2), -5);
        Due.go(x, 0, 101);
        word(x, 0, 0, 1, 0);
        hut(x, 2, 0, 1, 1, 0);
        ofRun(x, 6, 2);
        // b is woken, and its word comes at a hut that is awake: that goes on at its line.
        Due.go(x, 0, 100, 1, 100);
        hut(x, 0, 0, 1, 1, 2);
        Due.go(x, 0, 0, 1, 2);
        hut(x, 0, 0, 0, 1, 2);
        ofRun(x, 1, 9, 0, 0, 1, 0, 0, 3, 0, -2, 9);
        Due.is("asleep", x.step(0, 0, 0), -5);
        Due.is("WAY does not ask", x.step(0, 3, 0), -5);
        Due.is("what -1", x.ofRun(0, -1), -1);
        Due.is("what 11", x.ofRun(0, 11), -1);
        Due.is("run 1", x.ofRun(1, 1), -1);
        Due.is("run -1", x.ofRun(-1, 1), -1);
        Due.is("total", x.total(0), -2);
        Due.is("total", x.total(1), -1);
        Due.is("total", x.total(-1), -1);
    }

    /** Line by line, and behind the last line nothing. */
    private static void lines() {
        AllHome x = with(0, "b;;3b", "a2a");
        Due.go(x, 0, 0, 0, 100, 1, 1, 1, 1);
        hut(x, 0, 0, 0, 1, 1);
        hut(x, 1, 0, 0, 1, 3);
        Due.go(x, 0, 102, 0);
        hut(x, 0, 0, 0, 2, 0);
        Due.go(x, 0, 101, 0, 0, 0);
        hut(x, 0, 0, 1, 3, 3);
        word(x, 0, 1, 0, 0);
        word(x, 1, 0, 1, 0);
        Due.go(x, 0, 0, 100);
        hut(x, 0, 0, 1, 4, 0);
        Due.go(x, 0, 0);
        hut(x, 0, 0, 0, 4, 0);
        Due.go(x, 0, 100, 1);
        hut(x, 1, 0, 0, 2, 0);
        ofRun(x, 4, 0);
        Due.go(x, 0, 400);
        ofRun(x, 4, 0);
        Due.go(x, 0, 400);
        ofRun(x, 4, 1);
        Due.is("a second LOST", x.step(0, 4, 0), -5);
        ofRun(x, 9, -2, x.ofRun(0, 1));
    }

    private static void ofHutEdges() {
        int[][] kept = {{}, {3}, {4, 5, 6}, {}, {7, 8}, {9, 10}, {4, 5, 6}, {7, 8}, {9, 10}};
        for (int kind = 0; kind < 9; kind++) {
            AllHome x = with(kind, "b", "a");
            for (int what = 3; what <= 10; what++) {
                boolean is = false;
                for (int k : kept[kind]) {
                    is |= k == what;
                }
                int first = what == 3 ? 64 : what == 5 ? -1 : what == 6 ? 1 : 0;
                Due.is("kind " + kind + " what " + what, x.ofHut(0, 0, what), is ? first : VOID);
            }
            Due.is("total of kind " + kind, x.total(0), kind == 1 ? 64 : -2);
            Due.is("what -1", x.ofHut(0, 0, -1), VOID);
            Due.is("what 11", x.ofHut(0, 0, 11), VOID);
            Due.is("hut 2", x.ofHut(0, 2, 0), VOID);
            Due.is("hut -1", x.ofHut(0, -1, 0), VOID);
            Due.is("run 1", x.ofHut(1, 0, 0), VOID);
            Due.is("run -1", x.ofHut(-1, 0, 0), VOID);
        }
    }

    private static void lantern() {
        AllHome x = with(1, "9b;b", "");
        int[] parts = {32, 16, 8, 4, 2, 1};
        for (int i = 0; i < 6; i++) {
            Due.go(x, 0, 0);
            word(x, i, 0, 1, parts[i]);
        }
        hut(x, 0, 3, 1);
        Due.is("total", x.total(0), 64);
        Due.go(x, 0, 0);
        word(x, 6, 0, 1, 32);
        hut(x, 0, 3, 33);
        Due.is("total", x.total(0), 128);
        Due.go(x, 0, 0);
        word(x, 7, 0, 1, 16);
        hut(x, 0, 3, 17);
        Due.is("a ninth word", x.step(0, 0, 0), -3);
        ofRun(x, 1, 8, 8);
        hut(x, 0, 2, 8, 17);
        Due.go(x, 0, 101, 0);
        word(x, 7, 0, 1, 8);
        hut(x, 0, 3, 9);
        hut(x, 1, 3, 16);
        Due.go(x, 0, 0);
        // All come but the one of 1 unit, which is lost: then the way never says over.
        Due.go(x, 0, 100, 100, 100, 100, 400, 100, 100, 100);
        hut(x, 1, 3, 16 + 32 + 8 + 4 + 2 + 32 + 16 + 8);
        Due.go(x, 0, 1);
        hut(x, 1, 3, 0);
        note(x, 0, 0, 118, 0);
        ofRun(x, 3, 1, 1, 0, 0, 9, 1);
        Due.is("what 3", x.note(0, 0, 3), VOID);
        Due.is("what -1", x.note(0, 0, -1), VOID);
        Due.is("note 1", x.note(0, 1, 0), VOID);
        Due.is("note -1", x.note(0, -1, 0), VOID);
        Due.is("run 1", x.note(1, 0, 0), VOID);
        Due.go(x, 0, 200);
        hut(x, 0, 3, 127);
        ofRun(x, 3, 0, 1, 0);
        Due.is("a second time", x.step(0, 2, 0), -5);
        Due.is("LANTERN does not ask", x.step(0, 3, 0), -5);
    }

    private static void lanternSays() {
        // b wakes a again: all units may be home while a is awake, and then it is not said.
        AllHome x = with(1, "b", "");
        Due.go(x, 0, 0, 100, 1, 200);
        hut(x, 0, 3, 64);
        ofRun(x, 5, 0);
        Due.go(x, 0, 0);
        ofRun(x, 4, 1, 1, 0, 1, 1, 5, 5);
        // The root that falls asleep sends no note.
        AllHome y = with(1, "");
        Due.go(y, 0, 0);
        ofRun(y, 1, 1, 0, 0, 1, 1, 0, 0, 0, 1, 1);
        hut(y, 0, 3, 64);
        // Over in truth at 4, said at 5.
        AllHome z = with(1, "b", "");
        Due.go(z, 0, 0, 0, 100, 1, 200);
        ofRun(z, 9, 5, 4);
        // A word to a hut that there is not takes its units away.
        AllHome w = with(1, "c", "");
        Due.go(w, 0, 0, 0);
        hut(w, 0, 3, 32);
        ofRun(w, 1, 2, 0, 0, 1, 0, 0, 1, 0, -2, 2);
    }

    /** Eight words on the way, and the root has 1 unit: a ninth that is FULL puts no units in. */
    private static void lanternFull() {
        AllHome x = with(1, "6b", "4c", "");
        Due.go(x, 0, 0, 100, 1, 1, 1);
        Due.go(x, 0, 0, 0, 0, 0, 0);
        hut(x, 0, 3, 1);
        ofRun(x, 2, 8);
        Due.is("b's fourth", x.step(0, 0, 1), -3);
        hut(x, 1, 2, 3, 4);
        Due.is("total", x.total(0), 64);
        AllHome y = with(1, "7b", "4c", "");
        Due.go(y, 0, 0, 100, 1, 1, 1, 0, 0, 0, 0, 0);
        Due.is("a's seventh", y.step(0, 0, 0), -3);
        hut(y, 0, 0, 1, 1, 6, 1);
        Due.is("total", y.total(0), 64);
        ofRun(y, 7, 9);
        // Nine notes are too many: b stays awake and keeps its units.
        AllHome z = with(1, "9b", "");
        for (int k = 0; k < 8; k++) {
            Due.go(z, 0, 0, 100, 1);
        }
        Due.go(z, 0, 0, 100);
        int units = z.ofHut(0, 1, 3);
        Due.is("a ninth note", z.step(0, 0, 1), -3);
        hut(z, 1, 0, 1, 9, 0, units);
        ofRun(z, 3, 8);
        Due.go(z, 0, 203, 1);
        note(z, 7, 0, units, 0);
        note(z, 3, 0, 2, 0);
        note(z, 2, 0, 8, 0);
    }

    private static void stick() {
        AllHome x = with(2, "bc", "c", "");
        Due.go(x, 0, 0, 0);
        hut(x, 0, 4, 2, -1, 1);
        hut(x, 1, 4, 0, -1, 0);
        Due.go(x, 0, 100);
        hut(x, 1, 4, 0, 0, 1);
        Due.go(x, 0, 1, 101);
        hut(x, 1, 4, 1, 0, 1);
        hut(x, 2, 4, 0, 1, 1);
        // a's word comes at c, which is in the tree: a note to a.
        Due.go(x, 0, 100);
        note(x, 0, 0, 0, 0);
        ofRun(x, 3, 1, 0, 0, 3, 3, 1);
        Due.go(x, 0, 200);
        hut(x, 0, 4, 1);
        // b falls asleep with OUT 1: it stays in the tree.
        Due.go(x, 0, 1);
        hut(x, 1, 4, 1, 0, 1);
        Due.go(x, 0, 2);
        hut(x, 2, 4, 0, -1, 0);
        note(x, 0, 1, 0, 0);
        Due.go(x, 0, 200);
        // b's OUT is 0 now: it leaves behind this step.
        hut(x, 1, 4, 0, -1, 0);
        note(x, 0, 0, 0, 0);
        Due.go(x, 0, 200);
        hut(x, 0, 4, 0, -1, 1);
        ofRun(x, 4, 0, 0);
        Due.go(x, 0, 0);
        ofRun(x, 1, 12, 0, 0, 1, 1, 0, 3, 3, 12, 12);
        Due.is("STICK does not ask", x.step(0, 3, 0), -5);
    }

    private static void stickFull() {
        AllHome x = with(2, "9b", "");
        Due.go(x, 0, 0, 0, 0, 0, 0, 0, 0, 0);
        Due.is("a ninth word", x.step(0, 0, 0), -3);
        hut(x, 0, 2, 8);
        hut(x, 0, 4, 8);
        Due.go(x, 0, 100, 0);
        for (int k = 0; k < 8; k++) {
            Due.go(x, 0, 100);
        }
        ofRun(x, 2, 0, 8);
        int done = x.ofRun(0, 1);
        Due.is("b leaves by a ninth note", x.step(0, 0, 1), -3);
        hut(x, 1, 0, 1);
        hut(x, 1, 6, 1);
        ofRun(x, 1, done, 0, 8);
        Due.go(x, 0, 200, 1);
        hut(x, 1, 4, 0, -1, 0);
        ofRun(x, 3, 8);
        // A ninth note by a word that comes.
        AllHome y = with(2, "9b;;;", "9a");
        Due.go(y, 0, 0, 100);
        for (int k = 0; k < 8; k++) {
            Due.go(y, 0, 1, 100);
        }
        ofRun(y, 2, 0, 8);
        Due.go(y, 0, 1);
        Due.is("a ninth note", y.step(0, 1, 0), -3);
        ofRun(y, 2, 1, 8);
        Due.go(y, 0, 200, 100);
        ofRun(y, 2, 0, 8);
        // A note that comes and lets its hut leave: one goes, one comes.
        AllHome z = with(2, "9b", "c", "");
        Due.go(z, 0, 0, 100, 1, 1, 100, 2);
        for (int k = 0; k < 7; k++) {
            Due.go(z, 0, 0, 100);
        }
        ofRun(z, 3, 8);
        Due.go(z, 0, 1);
        note(z, 0, 1, 0, 0);
        Due.go(z, 0, 200);
        ofRun(z, 3, 8);
        hut(z, 1, 4, 0, -1, 0);
    }

    private static void loose() {
        // b leaves though its word to c is out: a says over too early.
        AllHome x = with(6, "b", "c", "");
        Due.go(x, 0, 0, 0, 100, 1, 1);
        hut(x, 1, 4, 1, -1, 0);
        note(x, 0, 0, 0, 0);
        ofRun(x, 4, 0, 0);
        Due.go(x, 0, 200);
        ofRun(x, 4, 0, 1);
        ofRun(x, 9, 6, -2);
        Due.go(x, 0, 100, 2);
        ofRun(x, 4, 1, 1);
        ofRun(x, 9, 6, 8);
        note(x, 0, 1, 0, 0);
        Due.go(x, 0, 200);
        hut(x, 1, 4, 0);
        // A stick in its place waits for c.
        AllHome y = with(2, "b", "c", "");
        Due.go(y, 0, 0, 0, 100, 1, 1);
        hut(y, 1, 4, 1, 0, 1);
        ofRun(y, 3, 0);
    }

    /** Said for good, though a word wakes the root again. */
    private static void saysForGood() {
        AllHome x = with(6, "b", "a", "");
        Due.go(x, 0, 0, 0, 100, 1, 1, 200);
        ofRun(x, 4, 0, 1);
        Due.go(x, 0, 100);
        hut(x, 0, 0, 1, 2);
        ofRun(x, 4, 0, 1);
        Due.go(x, 0, 0);
        ofRun(x, 4, 1, 1);
        ofRun(x, 9, 6, 8);
    }

    private static void stone() {
        AllHome x = with(4, "b", "c", "");
        Due.is("the root is awake", x.step(0, 3, 0), -5);
        Due.go(x, 0, 0, 0);
        hut(x, 0, 7, 1, 0);
        Due.is("the root asks, 0 alone", x.step(0, 3, 1), -5);
        Due.is("the root asks, 0 alone", x.step(0, 3, -1), -5);
        Due.go(x, 0, 300);
        note(x, 0, 2, 0, 0);
        Due.is("a note is on the way", x.step(0, 3, 0), -5);
        Due.go(x, 0, 100, 1);
        hut(x, 1, 7, 0, 1);
        word(x, 0, 1, 2, 0);
        Due.go(x, 0, 100);
        hut(x, 2, 7, -1, 1);
        Due.is("c is awake", x.step(0, 2, 0), -5);
        Due.go(x, 0, 2, 200);
        hut(x, 2, 7, -1, 0);
        note(x, 0, 1, -1, 1);
        Due.is("b is awake", x.step(0, 2, 0), -5);
        Due.go(x, 0, 1, 200);
        note(x, 0, 0, -1, 1);
        hut(x, 1, 7, 0, 0);
        Due.go(x, 0, 200);
        ofRun(x, 1, 11, 0, 0, 1, 0, 0, 2, 3, -2, 9);
        // The second time round it is white, and the sums are 0 together.
        Due.go(x, 0, 300, 200, 200);
        note(x, 0, 0, -1, 0);
        ofRun(x, 5, 0);
        Due.go(x, 0, 200);
        ofRun(x, 5, 1);
        ofRun(x, 8, 6, 15, 9);
    }

    /** A white stone with a sum that is not 0; a black root; and asking makes it white. */
    private static void stoneAtTheRoot() {
        AllHome x = with(4, "b", "");
        Due.go(x, 0, 0, 0, 400, 300, 200, 200);
        ofRun(x, 4, 1, 0);
        hut(x, 0, 7, 1, 0);
        AllHome y = with(4, "b", "a");
        Due.go(y, 0, 0, 0, 100, 1, 1, 300);
        note(y, 0, 1, 0, 0);
        Due.go(y, 0, 100);
        hut(y, 0, 7, 0, 1);
        Due.go(y, 0, 200);
        note(y, 0, 0, 0, 1);
        Due.is("the root is awake", y.step(0, 2, 0), -5);
        Due.go(y, 0, 0, 200);
        ofRun(y, 4, 1, 0);
        hut(y, 0, 8, 1);
        Due.go(y, 0, 300);
        hut(y, 0, 8, 0);
        Due.go(y, 0, 200, 200);
        ofRun(y, 4, 1, 1);
        // The root alone is black.
        AllHome z = with(4, "b;", "a");
        Due.go(z, 0, 0, 0, 100, 1, 1, 300, 200, 200, 300, 200);
        note(z, 0, 0, 0, 0);
        Due.go(z, 0, 100, 0, 200);
        hut(z, 0, 7, 0, 1);
        ofRun(z, 4, 1, 0);
        // One hut alone: the stone goes to the root itself.
        AllHome w = with(4, "");
        Due.go(w, 0, 0, 300);
        note(w, 0, 0, 0, 0);
        Due.go(w, 0, 200);
        ofRun(w, 1, 3, 0, 0, 1, 1, 0, 0, 1, 3, 1);
    }

    private static void pale() {
        // c is passed while it sleeps; then b's word wakes it; a pale b tells nothing of the word that came.
        AllHome x = with(7, "b", "c", "b");
        Due.go(x, 0, 0, 0, 300);
        Due.go(x, 0, 200);
        note(x, 0, 1, 0, 0);
        Due.go(x, 0, 100, 1, 100, 2, 1);
        hut(x, 2, 7, 0, 0);
        word(x, 0, 2, 1, 0);
        hut(x, 1, 7, 0, 0);
        Due.go(x, 0, 200);
        note(x, 0, 0, 0, 0);
        Due.go(x, 0, 200);
        ofRun(x, 4, 0, 0);
        hut(x, 0, 7, 1, 0);
    }

    private static void paleIsFooled() {
        AllHome x = with(7, "b", "c;a", "b");
        Due.go(x, 0, 0, 0, 300, 200);
        note(x, 0, 1, 0, 0);
        // b sends to c, c sends to b, b takes c's word: its sum is that of a's word alone.
        Due.go(x, 0, 100, 1, 100, 2, 100, 1);
        hut(x, 1, 7, -1, 0);
        hut(x, 2, 7, 0, 0);
        Due.go(x, 0, 200);
        note(x, 0, 0, -1, 0);
        Due.is("c is awake yet", x.ofHut(0, 2, 0), 1);
        Due.go(x, 0, 200);
        ofRun(x, 4, 0, 1);
        // A stone that is not pale is black here.
        AllHome y = with(4, "b", "c;a", "b");
        Due.go(y, 0, 0, 0, 300, 200, 100, 1, 100, 2, 100, 1, 200);
        note(y, 0, 0, -1, 1);
        Due.go(y, 0, 200);
        ofRun(y, 4, 0, 0);
    }

    private static void sums() {
        AllHome x = with(5, "b", "c", "");
        Due.is("the root is awake", x.step(0, 3, 0), -5);
        Due.go(x, 0, 0, 0, 300);
        note(x, 0, 1, 1, 0);
        Due.is("a note is on the way", x.step(0, 3, 0), -5);
        Due.go(x, 0, 100, 1);
        hut(x, 1, 9, 1, 1);
        // b takes it, awake as it is.
        Due.go(x, 0, 200);
        note(x, 0, 2, 2, 1);
        Due.go(x, 0, 100, 200);
        note(x, 0, 0, 2, 2);
        hut(x, 2, 9, 0, 1);
        Due.go(x, 0, 200);
        ofRun(x, 5, 0);
        Due.go(x, 0, 300, 200, 200, 200);
        // Two alike say over, though b and c are awake.
        ofRun(x, 1, 13, 0, 0, 0, 1, 2, 2, 6, 13, -2);
        Due.go(x, 0, 1, 2);
        ofRun(x, 9, 13, 15);
    }

    /** The note ahead counts, not any earlier one; and a first one says nothing. */
    private static void sumsAhead() {
        AllHome x = with(5, "b;", "a");
        Due.go(x, 0, 0, 0, 300, 200, 200);
        ofRun(x, 5, 0);
        Due.go(x, 0, 300, 200, 200);
        // Two alike, but sent is not come.
        ofRun(x, 5, 0);
        Due.go(x, 0, 100, 1, 1, 100, 0);
        hut(x, 0, 9, 1, 1);
        Due.go(x, 0, 300, 200, 200);
        ofRun(x, 4, 1, 0);
        Due.go(x, 0, 300, 200);
        note(x, 0, 0, 2, 2);
        Due.go(x, 0, 200);
        ofRun(x, 4, 1, 1);
        // One hut alone; the first note, 0 and 0, has none ahead.
        AllHome y = with(5, "");
        Due.go(y, 0, 0, 300);
        note(y, 0, 0, 0, 0);
        Due.go(y, 0, 200);
        ofRun(y, 5, 0);
        Due.go(y, 0, 300, 200);
        ofRun(y, 5, 1);
        ofRun(y, 8, 2, 5, 1);
        // A word that is lost was sent: never over.
        AllHome z = with(5, "b", "");
        Due.go(z, 0, 0, 0, 400, 300, 200, 200, 300, 200, 200);
        ofRun(z, 4, 1, 0);
        hut(z, 0, 9, 1, 0);
    }

    private static void hasty() {
        AllHome x = with(8, "b", "c", "");
        Due.go(x, 0, 0, 0, 300, 100, 1, 200, 100, 200, 200);
        ofRun(x, 4, 0, 1);
        ofRun(x, 8, 3, 9, -2);
        AllHome y = with(8, "b", "");
        Due.go(y, 0, 0, 0, 300, 200, 200);
        ofRun(y, 5, 0);
        Due.go(y, 0, 300, 200, 200);
        ofRun(y, 5, 0);
    }

    private static void ring() {
        AllHome x = with(3, "b", "");
        Due.is("the root is awake", x.step(0, 3, 0), -5);
        Due.go(x, 0, 0, 0, 300, 300);
        ofRun(x, 1, 4, 1, 0, 0, 0, 0, 1, 0, -2, -2);
        Due.is("the root asks, 0 alone", x.step(0, 3, 1), -5);
        Due.go(x, 0, 100, 300, 1, 300);
        ofRun(x, 4, 1, 0);
        ofRun(x, 8, 0, -2, 7);
    }

    private static void wordsOvertake() {
        AllHome x = with(0, "bcd", "", "", "");
        Due.go(x, 0, 0, 0, 0, 101);
        word(x, 0, 0, 1, 0);
        word(x, 1, 0, 3, 0);
        Due.go(x, 0, 401);
        word(x, 0, 0, 1, 0);
        ofRun(x, 2, 1);
        hut(x, 3, 0, 0, 0);
    }

    /** A word to a hut that there is not is sent, but never on the way: not even when that is full. */
    private static void noSuchHut() {
        AllHome x = with(4, "8bc", "");
        Due.go(x, 0, 0, 0, 0, 0, 0, 0, 0, 0);
        ofRun(x, 2, 8);
        Due.go(x, 0, 0);
        ofRun(x, 2, 8, 0, 0, 0, 1, 9);
        hut(x, 0, 2, 9);
        hut(x, 0, 7, 9);
        AllHome y = with(2, "b");
        Due.go(y, 0, 0, 0);
        hut(y, 0, 4, 1);
        ofRun(y, 4, 1, 0);
        AllHome z = with(5, "2b");
        Due.go(z, 0, 0, 0);
        hut(z, 0, 9, 2, 0);
    }

    public static void main(String[] args) {
        run();
        huts();
        lines();
        ofHutEdges();
        lantern();
        lanternSays();
        lanternFull();
        stick();
        stickFull();
        loose();
        saysForGood();
        stone();
        stoneAtTheRoot();
        pale();
        paleIsFooled();
        sums();
        sumsAhead();
        hasty();
        ring();
        wordsOvertake();
        noSuchHut();
        StepsOfRows.look();
        Due.end("RunsTest");
    }
}
