import java.util.function.Supplier;

/** The edges of each kind of way in terms 2: halves that are cut, one hut alone, six huts, the first and the last. */
public final class EdgesWaysTest {
    private static AllHome with(int kind, String... programs) {
        AllHome x = Due.withHuts(programs);
        x.way(kind);
        x.run(0);
        return x;
    }

    private static void says(AllHome x, int over, int says) {
        Due.is("over in truth", x.ofRun(0, 4), over);
        Due.is("says over", x.ofRun(0, 5), says);
    }

    private static void note(AllHome x, int i, int to, int first, int second) {
        Due.is("note to", x.note(0, i, 0), to);
        Due.is("note's first", x.note(0, i, 1), first);
        Due.is("note's second", x.note(0, i, 2), second);
    }

    // ---- LANTERN

    private static void theRootHasSixtyFour() {
        AllHome x = with(1, "b", "", "");
        Due.is("the root's", x.ofHut(0, 0, 3), 64);
        Due.is("b's", x.ofHut(0, 1, 3), 0);
        Due.is("c's", x.ofHut(0, 2, 3), 0);
        Due.is("total", x.total(0), 64);
        says(x, 0, 0);
    }

    /** The root sends until it has 1: down to 2 and 1 without more, then with 64 more. */
    private static void halvesDownToOne() {
        AllHome x = with(1, "9c9c", "");
        int[] keeps = {32, 16, 8, 4, 2, 1, 33, 17, 9, 5, 3, 2, 1, 33, 17, 9, 5, 3};
        int[] totals = {64, 64, 64, 64, 64, 64, 128, 128, 128, 128, 128, 128, 128, 192, 192, 192, 192, 192};
        for (int k = 0; k < 18; k++) {
            Due.go(x, 0, 0);
            Due.is("keeps behind word " + k, x.ofHut(0, 0, 3), keeps[k]);
            Due.is("total behind word " + k, x.total(0), totals[k]);
        }
    }

    /** An odd number: the word takes the smaller part. */
    private static void theCutOfHalves() {
        AllHome x = with(1, "9b9b", "");
        int[] words = {32, 16, 8, 4, 2, 1, 32, 16, 8, 4, 2, 1, 1, 32, 16};
        for (int k = 0; k < words.length; k++) {
            Due.go(x, 0, 0);
            Due.is("word " + k, x.word(0, 0, 2), words[k]);
            Due.go(x, 0, 400);
        }
    }

    /** Also one that is not the root has 64 more: b, woken by a word of 1. */
    private static void whoHasOneUnitHasMore() {
        AllHome x = with(1, "6b", "2c", "");
        Due.go(x, 0, 0, 0, 0, 0, 0, 0, 105);
        Due.is("b has", x.ofHut(0, 1, 3), 1);
        Due.go(x, 0, 1);
        Due.is("b's word", x.word(0, 5, 2), 32);
        Due.is("b keeps", x.ofHut(0, 1, 3), 33);
        Due.is("total", x.total(0), 128);
        Due.go(x, 0, 1);
        Due.is("b's next word", x.word(0, 6, 2), 16);
        Due.is("b keeps", x.ofHut(0, 1, 3), 17);
        Due.is("total", x.total(0), 128);
        Due.go(x, 0, 1);
        note(x, 0, 0, 17, 0);
        Due.is("b has none", x.ofHut(0, 1, 3), 0);
        // b has 2 units: they are parted without more.
        AllHome y = with(1, "5b", "c", "");
        Due.go(y, 0, 0, 0, 0, 0, 0, 104, 1);
        Due.is("b's word", y.word(0, 4, 2), 1);
        Due.is("b keeps", y.ofHut(0, 1, 3), 1);
        Due.is("total", y.total(0), 64);
    }

    private static void allUnitsAndTheRootAsleep() {
        AllHome x = with(1, "b;", "a");
        Due.go(x, 0, 0, 0, 100, 1);
        // a's own 32 and b's word of 16 come to 48 of 64; b has 16 yet.
        Due.go(x, 0, 100, 0);
        says(x, 0, 0);
        Due.is("a has", x.ofHut(0, 0, 3), 48);
        Due.go(x, 0, 1);
        says(x, 1, 0);
        Due.go(x, 0, 200);
        says(x, 1, 1);
        Due.is("a has all", x.ofHut(0, 0, 3), 64);
        // All is home while a is awake: said when it sleeps.
        AllHome y = with(1, "b;", "");
        Due.go(y, 0, 0, 100, 1, 200);
        Due.is("a has all", y.ofHut(0, 0, 3), 64);
        says(y, 0, 0);
        Due.go(y, 0, 0);
        says(y, 1, 1);
        // With 64 more, 64 are not all.
        AllHome z = with(1, "7b", "");
        Due.go(z, 0, 0, 0, 0, 0, 0, 0, 0, 0);
        Due.is("total", z.total(0), 128);
        for (int k = 0; k < 7; k++) {
            Due.go(z, 0, 100);
        }
        Due.go(z, 0, 1);
        says(z, 1, 0);
        Due.go(z, 0, 200);
        Due.is("a has all", z.ofHut(0, 0, 3), 128);
        says(z, 1, 1);
    }

    private static void oneLanternAlone() {
        AllHome x = with(1, "");
        says(x, 0, 0);
        Due.go(x, 0, 0);
        says(x, 1, 1);
        Due.is("no note", x.ofRun(0, 8), 0);
        // Words to nobody take units away: it never says so.
        AllHome y = with(1, "2b");
        Due.go(y, 0, 0, 0, 0);
        Due.is("a has", y.ofHut(0, 0, 3), 16);
        says(y, 1, 0);
    }

    private static void aLostWordTakesItsUnitsAway() {
        AllHome x = with(1, "2b", "");
        Due.go(x, 0, 0, 0, 0, 400, 100, 1, 200);
        Due.is("a has", x.ofHut(0, 0, 3), 32);
        Due.is("total", x.total(0), 64);
        says(x, 1, 0);
    }

    // ---- STICK and LOOSE

    private static void sticksAtFirst() {
        for (int kind : new int[] {2, 6}) {
            AllHome x = with(kind, "b", "a", "");
            int[][] want = {{0, -1, 1}, {0, -1, 0}, {0, -1, 0}};
            for (int h = 0; h < 3; h++) {
                for (int k = 0; k < 3; k++) {
                    Due.is("hut " + h + " what " + (4 + k), x.ofHut(0, h, 4 + k), want[h][k]);
                }
            }
        }
    }

    /** The root is in the tree: a word to it brings a note, though it never has a parent. */
    private static void theRootNeverLeaves() {
        for (int kind : new int[] {2, 6}) {
            AllHome x = with(kind, "b", "a");
            Due.go(x, 0, 0, 0, 100, 1, 100);
            note(x, 0, 1, 0, 0);
            Due.is("parent", x.ofHut(0, 0, 5), -1);
            Due.is("in the tree", x.ofHut(0, 0, 6), 1);
            Due.go(x, 0, 0);
            Due.is("in the tree, asleep", x.ofHut(0, 0, 6), 1);
        }
    }

    /** b has OUT 1 when it falls asleep, and leaves with OUT 0; LOOSE leaves with 1. */
    private static void outOfOneAndOfNone() {
        AllHome x = with(2, "b", "c", "");
        Due.go(x, 0, 0, 0, 100, 1, 1);
        Due.is("b's OUT", x.ofHut(0, 1, 4), 1);
        Due.is("b stays", x.ofHut(0, 1, 6), 1);
        Due.is("no note", x.ofRun(0, 3), 0);
        AllHome y = with(6, "b", "c", "");
        Due.go(y, 0, 0, 0, 100, 1, 1);
        Due.is("b's OUT", y.ofHut(0, 1, 4), 1);
        Due.is("b leaves", y.ofHut(0, 1, 6), 0);
        note(y, 0, 0, 0, 0);
        // The note for its word comes when it is out of the tree: OUT is 0 all the same.
        Due.go(y, 0, 100, 2);
        Due.is("c's note", y.note(0, 1, 0), 1);
        Due.go(y, 0, 201);
        Due.is("b's OUT", y.ofHut(0, 1, 4), 0);
        AllHome z = with(2, "b", "");
        Due.go(z, 0, 0, 100);
        Due.is("b is awake: it stays", z.ofHut(0, 1, 6), 1);
        Due.go(z, 0, 1);
        Due.is("asleep: it leaves", z.ofHut(0, 1, 6), 0);
    }

    /** A word that is lost stays out for good: by no note is it less. */
    private static void aLostWordStaysOut() {
        AllHome x = with(2, "2b", "");
        Due.go(x, 0, 0, 0, 0, 400, 100, 1, 200);
        Due.is("OUT", x.ofHut(0, 0, 4), 1);
        says(x, 1, 0);
        AllHome y = with(2, "c", "");
        Due.go(y, 0, 0, 0);
        Due.is("OUT of a word to nobody", y.ofHut(0, 0, 4), 1);
        says(y, 1, 0);
    }

    private static void oneStickAlone() {
        for (int kind : new int[] {2, 6}) {
            AllHome x = with(kind, "");
            says(x, 0, 0);
            Due.go(x, 0, 0);
            says(x, 1, 1);
        }
    }

    /** Who left may be woken again: by another sender, its parent then. */
    private static void aNewParent() {
        AllHome x = with(2, "bc", "c", "");
        Due.go(x, 0, 0, 0, 101);
        Due.is("c's parent is a", x.ofHut(0, 2, 5), 0);
        Due.go(x, 0, 2);
        Due.is("c left", x.ofHut(0, 2, 6), 0);
        Due.go(x, 0, 100, 1, 100);
        Due.is("c's parent is b", x.ofHut(0, 2, 5), 1);
        Due.is("c is in the tree", x.ofHut(0, 2, 6), 1);
        Due.go(x, 0, 2);
        Due.is("the note goes to b", x.note(0, 1, 0), 1);
    }

    /** Behind the note that brings OUT to 0 two huts leave one behind the other, not at once. */
    private static void leavingGoesUpTheTree() {
        AllHome x = with(2, "b", "c", "d", "");
        Due.go(x, 0, 0, 0, 100, 1, 1, 100, 2, 2, 100);
        Due.is("no note yet", x.ofRun(0, 3), 0);
        Due.go(x, 0, 3);
        note(x, 0, 2, 0, 0);
        Due.is("one note", x.ofRun(0, 3), 1);
        Due.go(x, 0, 200);
        note(x, 0, 1, 0, 0);
        Due.go(x, 0, 200);
        note(x, 0, 0, 0, 0);
        says(x, 1, 0);
        Due.go(x, 0, 200);
        says(x, 1, 1);
    }

    // ---- STONE and PALE

    private static void theStoneGoesFromTheLastHutDown() {
        for (int kind : new int[] {4, 7}) {
            for (int n = 1; n <= 6; n++) {
                String[] programs = new String[n];
                java.util.Arrays.fill(programs, "");
                AllHome x = with(kind, programs);
                Due.go(x, 0, 0, 300);
                for (int h = n - 1; h >= 0; h--) {
                    says(x, 1, 0);
                    Due.is("one note", x.ofRun(0, 3), 1);
                    note(x, 0, h, 0, 0);
                    Due.go(x, 0, 200);
                }
                says(x, 1, 1);
                Due.is("notes in all", x.ofRun(0, 8), n);
                Due.is("said with", x.ofRun(0, 9), n + 2);
                Due.is("no note", x.ofRun(0, 3), 0);
            }
        }
    }

    private static void anAwakeHutDoesNotTakeTheStone() {
        for (int kind : new int[] {4, 7}) {
            Supplier<AllHome> atAwake = () -> {
                AllHome x = with(kind, "b", "a");
                Due.go(x, 0, 0, 0, 300, 100);
                return x;
            };
            Edge.refused("b is awake", atAwake, x -> x.step(0, 2, 0), -5);
            Supplier<AllHome> atRoot = () -> {
                AllHome x = with(kind, "b;", "a");
                Due.go(x, 0, 0, 0, 100, 1, 1, 300, 200, 100);
                return x;
            };
            Edge.refused("the root is awake", atRoot, x -> x.step(0, 2, 0), -5);
            AllHome x = atRoot.get();
            Due.go(x, 0, 0, 200);
        }
    }

    /** Black huts, the stone behind them, and the hut that is white then; PALE is never black. */
    private static void blackOfAHutAndOfTheStone() {
        AllHome x = with(4, "b", "c", "");
        Due.go(x, 0, 0, 0, 100, 1, 1, 100, 2, 300);
        Due.is("b is black", x.ofHut(0, 1, 8), 1);
        Due.is("c is black", x.ofHut(0, 2, 8), 1);
        Due.is("the root is white", x.ofHut(0, 0, 8), 0);
        Due.go(x, 0, 200);
        note(x, 0, 1, -1, 1);
        Due.is("c is white", x.ofHut(0, 2, 8), 0);
        Due.go(x, 0, 200);
        note(x, 0, 0, -1, 1);
        Due.go(x, 0, 200);
        says(x, 1, 0);
        AllHome y = with(7, "b", "c", "");
        Due.go(y, 0, 0, 0, 100, 1, 1, 100, 2, 300);
        Due.is("b is white", y.ofHut(0, 1, 8), 0);
        Due.go(y, 0, 200, 200);
        note(y, 0, 0, -1, 0);
        Due.go(y, 0, 200);
        says(y, 1, 1);
    }

    /** Sums of less than 0 and more than 0 that are not 0 together. */
    private static void sumsAreNotNone() {
        AllHome x = with(4, "2b", "");
        Due.go(x, 0, 0, 0, 0, 400, 100, 1, 300, 200);
        Due.is("root's sum", x.ofHut(0, 0, 7), 2);
        Due.is("b's sum", x.ofHut(0, 1, 7), -1);
        note(x, 0, 0, -1, 1);
        Due.go(x, 0, 200, 300, 200);
        note(x, 0, 0, -1, 0);
        Due.go(x, 0, 200);
        says(x, 1, 0);
        AllHome y = with(7, "b");
        Due.go(y, 0, 0, 0, 300, 200);
        Due.is("one hut alone: sum of a word to nobody", y.ofHut(0, 0, 7), 1);
        says(y, 1, 0);
    }

    private static void askingMakesTheRootWhite() {
        AllHome x = with(4, "b;", "a");
        Due.go(x, 0, 0, 0, 100, 1, 1, 100, 0);
        Due.is("black by the word that came", x.ofHut(0, 0, 8), 1);
        Due.go(x, 0, 300);
        Due.is("white by asking", x.ofHut(0, 0, 8), 0);
    }

    // ---- SUMS and HASTY

    private static void sumsGoFromHutOneUp() {
        for (int kind : new int[] {5, 8}) {
            for (int n = 1; n <= 6; n++) {
                String[] programs = new String[n];
                java.util.Arrays.fill(programs, "");
                AllHome x = with(kind, programs);
                Due.go(x, 0, 0);
                for (int round = 0; round < (kind == 5 ? 2 : 1); round++) {
                    Due.go(x, 0, 300);
                    for (int k = 1; k <= n; k++) {
                        says(x, 1, 0);
                        note(x, 0, k % n, 0, 0);
                        Due.is("one note", x.ofRun(0, 3), 1);
                        Due.go(x, 0, 200);
                    }
                }
                says(x, 1, 1);
                Due.is("notes in all", x.ofRun(0, 8), kind == 5 ? 2 * n : n);
            }
        }
    }

    /** Each takes it, awake or not, the root too, which adds nothing. */
    private static void anAwakeHutTakesTheSums() {
        AllHome x = with(5, "b;c", "a", "");
        Due.go(x, 0, 0, 0, 300, 100, 1);
        note(x, 0, 1, 1, 0);
        Due.go(x, 0, 200);
        note(x, 0, 2, 2, 1);
        Due.go(x, 0, 100, 0);
        Due.is("the root sent", x.ofHut(0, 0, 9), 2);
        Due.is("at the root came", x.ofHut(0, 0, 10), 1);
        Due.go(x, 0, 200);
        note(x, 0, 0, 2, 1);
        Due.is("the root is awake", x.ofHut(0, 0, 0), 1);
        Due.go(x, 0, 200);
        says(x, 0, 0);
        Due.is("it was taken", x.ofRun(0, 3), 0);
    }

    /** All four alike: sent, came, and those ahead. */
    private static void allFourAlike() {
        AllHome none = with(5, "");
        Due.go(none, 0, 0, 300, 200);
        says(none, 1, 0);
        // 1 and 1, behind 1 and 0: sent alone is alike.
        AllHome x = with(5, "b", "");
        Due.go(x, 0, 0, 0, 300, 200, 200, 100, 1, 300, 200);
        note(x, 0, 0, 1, 1);
        Due.go(x, 0, 200);
        says(x, 1, 0);
        Due.go(x, 0, 300, 200, 200);
        says(x, 1, 1);
        // 1 and 0 twice: like those ahead, but not one another.
        AllHome y = with(5, "b", "");
        Due.go(y, 0, 0, 0, 300, 200, 200, 300, 200, 200);
        says(y, 0, 0);
        // 1 and 1, ahead of it 0 and 0.
        AllHome z = with(5, ";b", "a");
        Due.go(z, 0, 0, 300, 200, 200);
        says(z, 1, 0);
        AllHome w = with(8, "b", "");
        Due.go(w, 0, 0, 0, 300, 200, 200);
        says(w, 0, 0);
        Due.go(w, 0, 100, 300, 200, 200);
        says(w, 0, 1);
    }

    // ---- WAY and RING say nothing

    private static void wayAndRingSayNothing() {
        for (int kind : new int[] {0, 3}) {
            AllHome x = with(kind, "");
            Due.go(x, 0, 0);
            says(x, 1, 0);
            Due.is("not said", x.ofRun(0, 9), -2);
            AllHome y = with(kind, "b", "");
            Due.go(y, 0, 0, 0, 100, 1);
            says(y, 1, 0);
        }
    }

    /** The run goes on as before behind what is said, and it is said for good. */
    private static void saidForGood() {
        AllHome x = with(6, "b", "3c", "a");
        Due.go(x, 0, 0, 0, 100, 1, 1, 1, 1, 200);
        says(x, 0, 1);
        int said = x.ofRun(0, 9);
        Due.is("said with the last", said, 8);
        Due.go(x, 0, 100, 100, 2);
        Due.is("a is woken", x.step(0, 1, 1), 12);
        says(x, 0, 1);
        Due.is("said with the same", x.ofRun(0, 9), said);
        Due.is("the root is awake", x.ofHut(0, 0, 0), 1);
        AllHome y = with(4, "");
        Due.go(y, 0, 0, 300, 200, 300);
        says(y, 1, 1);
        Due.is("asked again", y.ofRun(0, 3), 1);
        Due.go(y, 0, 200);
        Due.is("said with the first", y.ofRun(0, 9), 3);
    }

    public static void main(String[] args) {
        theRootHasSixtyFour();
        halvesDownToOne();
        theCutOfHalves();
        whoHasOneUnitHasMore();
        allUnitsAndTheRootAsleep();
        oneLanternAlone();
        aLostWordTakesItsUnitsAway();
        sticksAtFirst();
        theRootNeverLeaves();
        outOfOneAndOfNone();
        aLostWordStaysOut();
        oneStickAlone();
        aNewParent();
        leavingGoesUpTheTree();
        theStoneGoesFromTheLastHutDown();
        anAwakeHutDoesNotTakeTheStone();
        blackOfAHutAndOfTheStone();
        sumsAreNotNone();
        askingMakesTheRootWhite();
        sumsGoFromHutOneUp();
        anAwakeHutTakesTheSums();
        allFourAlike();
        wayAndRingSayNothing();
        saidForGood();
        Due.end("EdgesWaysTest");
    }
}
