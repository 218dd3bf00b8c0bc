import java.util.ArrayList;
import java.util.List;
import java.util.function.Supplier;

/** The edges of terms 2 and of promises 8 to 15 that hold for all ways alike. Those of one way: EdgesWaysTest. */
public final class EdgesRunsTest {
    private static final Supplier<AllHome> NO_RUN = Scenes::noRun;
    private static final Supplier<AllHome> NO_HUT = Scenes::noHut;
    private static final Supplier<AllHome> ALL_FULL = Scenes::allFull;
    /** One in the midst of its runs for each kind of way. */
    private static final List<Supplier<AllHome>> MID_RUN = new ArrayList<>();
    private static final int VOID = AllHome.VOID;

    private static Supplier<AllHome> midRun(int kind) {
        return MID_RUN.get(kind);
    }

    // ---- promise 8: BAD; STATE: no HUT; FULL

    private static void runsFromNoneToThree() {
        AllHome x = Due.withHuts("");
        x.way(0);
        x.way(8);
        for (int run = 0; run < 4; run++) {
            Due.is("run", x.run(1 - run % 2), run);
            Due.is("so many", x.count(2), run + 1);
        }
        Due.is("the last one", x.step(3, 0, 0), 1);
        Edge.refusedFor("a fifth, run(way)", ALL_FULL, (y, way) -> y.run(way), -3, 0, 9);
        Edge.refusedFor("BAD ahead of FULL, run(way)", ALL_FULL, (y, way) -> y.run(way), -1, 10, 11);
        Edge.refusedForOdd("BAD ahead of FULL, run(way)", ALL_FULL, (y, way) -> y.run(way), -1);
    }

    private static void noRunWithoutAWay() {
        Edge.refusedFor("run(way) of three", NO_RUN, (x, way) -> x.run(way), -1, 3, 9, 10);
        Edge.refusedForOdd("run(way) of three", NO_RUN, (x, way) -> x.run(way), -1);
    }

    private static void noRunWithoutAHut() {
        Edge.refusedFor("run(way), no hut", NO_HUT, (x, way) -> x.run(way), -5, 0, 1, 2);
        Edge.refusedFor("BAD ahead of STATE, run(way)", NO_HUT, (x, way) -> x.run(way), -1, 3, 9);
        Edge.refusedForOdd("BAD ahead of STATE, run(way)", NO_HUT, (x, way) -> x.run(way), -1);
    }

    // ---- promise 9

    private static void noStepOfARunThatThereIsNot() {
        Edge.refusedFor("step(run, 0, 0)", midRun(0), (x, run) -> x.step(run, 0, 0), -1, 2, 3, 4);
        Edge.refusedForOdd("step(run, 0, 0)", midRun(0), (x, run) -> x.step(run, 0, 0), -1);
        Edge.refusedForOdd("step(run, 3, -1)", midRun(4), (x, run) -> x.step(run, 3, -1), -1);
        Edge.refused("a fifth run", ALL_FULL, x -> x.step(4, 0, 0), -1);
    }

    private static void sortsFromNoneToFour() {
        for (int kind = 0; kind < 9; kind++) {
            Edge.refusedFor("step(0, sort, 0)", midRun(kind), (x, sort) -> x.step(0, sort, 0), -1, 5, 6, 100);
            Edge.refusedForOdd("step(0, sort, 0)", midRun(kind), (x, sort) -> x.step(0, sort, 0), -1);
        }
        Edge.refusedForOdd("BAD ahead of STATE, step(0, sort, -1)", midRun(1), (x, sort) -> x.step(0, sort, -1), -1);
        Edge.refused("BAD ahead of STATE, step(0, 5, 9)", midRun(1), x -> x.step(0, 5, 9), -1);
    }

    /** What the number of a step tells is there, or it is STATE: no hut that is awake, no word, no note, no asking. */
    private static void noNumberThatThereIsNot() {
        for (int kind = 0; kind < 9; kind++) {
            for (int run = 0; run < 2; run++) {
                AllHome x = Scenes.midRun(kind);
                int theRun = run;
                int words = x.ofRun(run, 2);
                int notes = x.ofRun(run, 3);
                int[] first = {2, words, notes, 1, words};
                for (int sort = 0; sort < 5; sort++) {
                    int theSort = sort;
                    String call = "kind " + kind + " step(" + run + ", " + sort + ", i)";
                    Edge.refusedForOdd(call, midRun(kind), (y, i) -> y.step(theRun, theSort, i), -5);
                    Edge.refusedFor(call, midRun(kind), (y, i) -> y.step(theRun, theSort, i), -5, first[sort], 8, 9);
                }
            }
        }
    }

    private static void theLastWordAndNoteAreTaken() {
        for (int kind = 0; kind < 9; kind++) {
            AllHome x = Scenes.midRun(kind);
            Due.is("kind " + kind + " words", x.ofRun(1, 2), 4);
            int next = isRing(kind) ? 10 : 9;
            Due.is("the last comes", x.step(1, 1, 3), next);
            AllHome y = Scenes.midRun(kind);
            Due.is("the last is lost", y.step(1, 4, 3), next);
            Due.is("one less", y.ofRun(1, 2), 3);
            AllHome z = Scenes.midRun(kind);
            int notes = z.ofRun(1, 3);
            if (notes > 0) {
                int done = z.ofRun(1, 1);
                Due.is("the last note", z.step(1, 2, notes - 1), done + 1);
            }
        }
    }

    private static boolean isRing(int kind) {
        return kind == 3 || kind == 4 || kind == 5 || kind == 7 || kind == 8;
    }

    private static void hutsThatSleepDoNotGoOn() {
        for (int kind = 0; kind < 9; kind++) {
            Edge.refused("kind " + kind + " a is asleep", midRun(kind), x -> x.step(0, 0, 0), -5);
            Edge.refused("kind " + kind + " b is asleep", midRun(kind), x -> x.step(1, 0, 1), -5);
        }
        AllHome x = Due.withHuts("", "", "", "", "", "");
        x.way(0);
        x.run(0);
        for (int h = 1; h < 6; h++) {
            Due.is("hut " + h + " sleeps at first", x.step(0, 0, h), -5);
        }
        Due.is("the root is awake at first", x.step(0, 0, 0), 1);
        Due.is("but once", x.step(0, 0, 0), -5);
    }

    private static void theHutOfTheLastNumberGoesOn() {
        AllHome x = Due.withHuts("f", "", "", "", "", "a");
        x.way(0);
        x.run(0);
        Due.go(x, 0, 0, 100, 5, 5);
        Due.is("hut 5 is asleep", x.ofHut(0, 5, 0), 0);
        Due.is("hut 6", x.step(0, 0, 6), -5);
    }

    /** The root asks under RING alone, if no note is on the way and it is asleep. */
    private static void askingIsNotForAll() {
        for (int kind = 0; kind < 9; kind++) {
            int theKind = kind;
            Supplier<AllHome> awake = () -> {
                AllHome x = Due.withHuts("b", "a");
                x.way(theKind);
                x.run(0);
                return x;
            };
            Edge.refused("kind " + kind + ": the root is awake", awake, x -> x.step(0, 3, 0), -5);
            Supplier<AllHome> asleep = () -> {
                AllHome x = Due.withHuts("", "");
                x.way(theKind);
                x.run(0);
                x.step(0, 0, 0);
                return x;
            };
            if (!isRing(kind)) {
                Edge.refused("kind " + kind + " does not ask", asleep, x -> x.step(0, 3, 0), -5);
                continue;
            }
            AllHome x = asleep.get();
            Due.is("kind " + kind + " asks", x.step(0, 3, 0), 2);
            Due.is("by a note", x.ofRun(0, 3), kind == 3 ? 0 : 1);
            Supplier<AllHome> asked = () -> {
                AllHome y = asleep.get();
                y.step(0, 3, 0);
                return y;
            };
            if (kind == 3) {
                Due.is("RING asks again: no note is on the way", x.step(0, 3, 0), 3);
            } else {
                Edge.refused("kind " + kind + ": a note is on the way", asked, y -> y.step(0, 3, 0), -5);
            }
            Edge.refusedFor("kind " + kind + " step(0, 3, i)", asleep, (y, i) -> y.step(0, 3, i), -5, 1, 2);
            Edge.refusedForOdd("kind " + kind + " step(0, 3, i)", asleep, (y, i) -> y.step(0, 3, i), -5);
        }
    }

    /** Eight words are on the way at most: the ninth is FULL, and nothing of it is kept. */
    private static void eightWordsAreTheMost() {
        for (int kind = 0; kind < 9; kind++) {
            int theKind = kind;
            Supplier<AllHome> eight = () -> {
                AllHome x = Due.withHuts("9b9c", "");
                x.way(theKind);
                x.run(0);
                Due.go(x, 0, 0, 0, 0, 0, 0, 0, 0, 0);
                return x;
            };
            Edge.refused("kind " + kind + " a ninth word", eight, x -> x.step(0, 0, 0), -3);
            AllHome x = eight.get();
            Due.is("eight words", x.ofRun(0, 2), 8);
            Due.is("one is lost", x.step(0, 4, 7), 9);
            Due.is("one more is sent", x.step(0, 0, 0), 10);
            Due.is("FULL again", x.ofRun(0, 2), 8);
            // The tenth goes to a hut that there is not: it is never on the way.
            Due.is("it is sent though eight are on the way", x.step(0, 0, 0), 11);
            Due.is("words", x.ofRun(0, 2), 8);
            Due.is("sent in all", x.ofRun(0, 7), 10);
        }
    }

    private static void eightNotesAreTheMost() {
        int[] kinds = {1, 2, 6};
        for (int kind : kinds) {
            Supplier<AllHome> eight = () -> {
                AllHome x = Due.withHuts("9b", "");
                x.way(kind);
                x.run(0);
                for (int k = 0; k < 8; k++) {
                    Due.go(x, 0, 0, 100, 1);
                }
                Due.go(x, 0, 0, 100);
                return x;
            };
            Edge.refused("kind " + kind + " a ninth note", eight, x -> x.step(0, 0, 1), -3);
            AllHome x = eight.get();
            Due.is("eight notes", x.ofRun(0, 3), 8);
            int done = x.ofRun(0, 1);
            Due.is("a ninth is none", x.step(0, 2, 8), -5);
            Due.is("the eighth comes", x.step(0, 2, 7), done + 1);
            Due.is("then b may sleep", x.step(0, 0, 1), done + 2);
            Due.is("eight notes", x.ofRun(0, 3), 8);
            Due.is("nine in all", x.ofRun(0, 8), 9);
        }
    }

    /** Behind the last line a hut that is woken sends nothing. */
    private static void behindTheLastLineNothing() {
        for (int kind = 0; kind < 9; kind++) {
            AllHome x = Due.withHuts("3b", "a;2a");
            x.way(kind);
            x.run(0);
            Due.go(x, 0, 0, 0, 0, 100, 1, 1, 100, 1, 1, 1);
            Due.is("b sent three", x.ofRun(0, 7), 6);
            Due.go(x, 0, 100);
            Due.is("woken a third time", x.ofHut(0, 1, 1), 3);
            Due.is("awake", x.ofHut(0, 1, 0), 1);
            Due.go(x, 0, 1);
            Due.is("nothing was sent", x.ofRun(0, 7), 6);
            Due.is("asleep", x.ofHut(0, 1, 0), 0);
            // a, behind its one line, was awake all the time: the words that came let it go on.
            Due.is("a was woken once", x.ofHut(0, 0, 1), 1);
            Due.go(x, 0, 0, 100, 0);
            Due.is("a has one line", x.ofHut(0, 0, 1), 2);
            Due.is("nothing was sent", x.ofRun(0, 7), 6);
        }
    }

    /** A word to a hut that there is not: it is sent, but on the way it is not. */
    private static void noHutNoWordOnTheWay() {
        for (int kind = 0; kind < 9; kind++) {
            AllHome x = Due.withHuts("2bf", "");
            x.way(kind);
            x.run(0);
            Due.go(x, 0, 0, 0, 0);
            Due.is("words", x.ofRun(0, 2), 2);
            Due.is("sent", x.ofRun(0, 7), 3);
            Due.is("of the line", x.ofHut(0, 0, 2), 3);
            Due.is("units", x.ofHut(0, 0, 3), kind == 1 ? 8 : VOID);
            Due.is("out", x.ofHut(0, 0, 4), kind == 2 || kind == 6 ? 3 : VOID);
            Due.is("sum", x.ofHut(0, 0, 7), kind == 4 || kind == 7 ? 3 : VOID);
            Due.is("sent", x.ofHut(0, 0, 9), kind == 5 || kind == 8 ? 3 : VOID);
            AllHome y = Due.withHuts("b");
            y.way(kind);
            y.run(0);
            Due.go(y, 0, 0, 0);
            Due.is("over at once", y.ofRun(0, 10), 2);
            Due.is("no word comes", y.step(0, 1, 0), -5);
            Due.is("nor is lost", y.step(0, 4, 0), -5);
        }
    }

    // ---- promise 10

    private static void stepsOneToSixty() {
        Edge.refusedFor("steps(0, 2, 0, n)", midRun(1), (x, n) -> x.steps(0, 2, 0, n), -1, 0, 61, 62);
        Edge.refusedForOdd("steps(0, 2, 0, n)", midRun(1), (x, n) -> x.steps(0, 2, 0, n), -1);
        Edge.refusedForOdd("BAD ahead of -12, steps(0, 1, 0, n)", midRun(1), (x, n) -> x.steps(0, 1, 0, n), -1);
        Edge.refusedForOdd("BAD though the row is missing, steps(0, 0, 0, n)", midRun(1),
            (x, n) -> x.steps(0, 0, 0, n), -1);
        Edge.refusedFor("steps(0, 3, 0, n)", midRun(1), (x, n) -> x.steps(0, 3, 0, n), -1, 0, 61);
    }

    private static void stepsOfARunAndAShelf() {
        Edge.refusedFor("steps(run, 2, 0, 1)", midRun(2), (x, run) -> x.steps(run, 2, 0, 1), -1, 2, 4);
        Edge.refusedForOdd("steps(run, 2, 0, 1)", midRun(2), (x, run) -> x.steps(run, 2, 0, 1), -1);
        Edge.refusedFor("steps(0, shelf, 0, 1)", midRun(2), (x, shelf) -> x.steps(0, shelf, 0, 1), -1, 6, 7);
        Edge.refusedForOdd("steps(0, shelf, 0, 1)", midRun(2), (x, shelf) -> x.steps(0, shelf, 0, 1), -1);
        Edge.refusedForOdd("BAD ahead of -12, steps(run, 1, 0, 1)", midRun(2), (x, run) -> x.steps(run, 1, 0, 1), -1);
    }

    private static void stepsOfNoRowOfShorts() {
        for (int sort = 0; sort < 5; sort++) {
            int theSort = sort;
            Supplier<AllHome> row = () -> {
                AllHome x = Scenes.midRun(3);
                x.row(0, theSort, 3);
                return x;
            };
            if (sort != 1) {
                Edge.refused("a row of sort " + sort, row, x -> x.steps(0, 0, 0, 3), -12);
                Edge.refusedForOdd("its place does not matter, steps(0, 0, i, 1)", row, (x, i) -> x.steps(0, 0, i, 1), -12);
            } else {
                Due.is("of shorts", row.get().steps(1, 0, 0, 3), 0);
            }
        }
        Edge.refused("a way", midRun(3), x -> x.steps(0, 1, 0, 1), -12);
        Edge.refused("a row of none that are no shorts", midRun(3), x -> x.steps(0, 5, 0, 1), -12);
    }

    private static void theRowIsMissing() {
        Edge.refusedForOdd("steps(0, 0, i, 60)", midRun(4), (x, i) -> x.steps(0, 0, i, 60), 0);
        Edge.refusedFor("steps(0, 0, i, 1)", midRun(4), (x, i) -> x.steps(0, 0, i, 1), 0, 0, 1, 59, 60);
        AllHome x = Scenes.midRun(4);
        x.keep(2, -1);
        Due.is("a row that was taken away", x.steps(0, 2, 0, 60), 0);
        Due.is("nothing was done", x.ofRun(0, 1), 7);
    }

    private static AllHome row(int... codes) {
        AllHome x = Due.withHuts("9b", "a");
        x.way(0);
        x.run(0);
        Due.is("a row", x.row(0, 1, codes.length), 1);
        for (int i = 0; i < codes.length; i++) {
            x.put(0, i, codes[i]);
        }
        return x;
    }

    private static void steps(AllHome x, int i, int n, int want) {
        int done = x.ofRun(0, 1);
        Due.is("steps(0, 0, " + i + ", " + n + ")", x.steps(0, 0, i, n), want);
        Due.is("steps of the run", x.ofRun(0, 1), done + want);
    }

    private static void theRowEnds() {
        Supplier<AllHome> two = () -> row(0, 0);
        Edge.refusedFor("steps(0, 0, i, 60)", two, (x, i) -> x.steps(0, 0, i, 60), 0, 2, 3, 60, -1, -2,
            Integer.MIN_VALUE, Integer.MAX_VALUE, Integer.MAX_VALUE - 59);
        steps(row(0, 0), 0, 60, 2);
        steps(row(0, 0), 1, 60, 1);
        steps(row(0, 0), 0, 1, 1);
        steps(row(0, 0, 0), 0, 2, 2);
        steps(row(), 0, 60, 0);
        int[] sixty = new int[60];
        for (int i = 0; i < 60; i++) {
            sixty[i] = i % 2 == 0 ? 0 : 400;
        }
        AllHome x = row(sixty);
        steps(x, 58, 60, 2);
        steps(x, 59, 1, 0);
        AllHome y = Due.withHuts("");
        y.way(3);
        y.run(0);
        y.step(0, 0, 0);
        y.row(0, 1, 60);
        for (int i = 0; i < 60; i++) {
            y.put(0, i, 300);
        }
        steps(y, 0, 60, 60);
        steps(y, 0, 59, 59);
        steps(y, 1, 60, 59);
        steps(y, 59, 60, 1);
        steps(y, 60, 60, 0);
    }

    /** Up to a step that is refused it ran: as STATE, as BAD or as FULL. */
    private static void itEndsWhereOneIsRefused() {
        int[] refused = {1, 2, 99, 101, 108, 199, 200, 299, 300, 301, 399, 401, 499, 500, 599, 32767,
            -1, -99, -100, -199, -499, -32768};
        for (int code : refused) {
            steps(row(0, code, 0), 0, 60, 1);
            Supplier<AllHome> first = () -> row(code, 0);
            Edge.refused("first is " + code, first, x -> x.steps(0, 0, 0, 60), 0);
        }
        int[] words = new int[12];
        AllHome x = row(words);
        steps(x, 0, 60, 8);
        Due.is("eight words", x.ofRun(0, 2), 8);
        Due.is("the step itself is FULL", x.step(0, 0, 0), -3);
    }

    private static void theShortIsWhatWasKeptOfIt() {
        // 65536 + 100 keeps 100: the word comes.
        AllHome x = row(0, 65636, 65537);
        steps(x, 0, 60, 3);
        Due.is("b has sent", x.ofHut(0, 1, 2), 1);
    }

    // ---- promises 11 to 15

    private static void ofRunFromNoneToTen() {
        AllHome x = Due.withHuts("", "");
        x.way(3);
        x.way(1);
        x.run(1);
        int[] first = {1, 0, 0, 0, 0, 0, 1, 0, 0, -2, -2};
        for (int what = 0; what <= 10; what++) {
            Due.is("of a new run " + what, x.ofRun(0, what), first[what]);
        }
        Due.go(x, 0, 0);
        int[] then = {1, 1, 0, 0, 1, 1, 0, 0, 0, 1, 1};
        for (int what = 0; what <= 10; what++) {
            Due.is("of one that is over " + what, x.ofRun(0, what), then[what]);
        }
        Edge.refusedFor("ofRun(0, what)", midRun(1), (y, what) -> y.ofRun(0, what), -1, 11, 12, 100);
        Edge.refusedForOdd("ofRun(0, what)", midRun(1), (y, what) -> y.ofRun(0, what), -1);
        Edge.refusedFor("ofRun(run, 1)", midRun(1), (y, run) -> y.ofRun(run, 1), -1, 2, 3, 4);
        Edge.refusedForOdd("ofRun(run, 9)", midRun(1), (y, run) -> y.ofRun(run, 9), -1);
        Edge.refused("a fifth run", ALL_FULL, y -> y.ofRun(4, 0), -1);
    }

    /** It is said with the step; it stays the first; and it is over with the step too, said or not. */
    private static void theStepAtWhich() {
        AllHome x = Due.withHuts("b", "");
        x.way(1);
        x.run(0);
        Due.go(x, 0, 0, 0, 100);
        Due.is("not yet", x.ofRun(0, 10), -2);
        Due.go(x, 0, 1);
        Due.is("over with the fourth", x.ofRun(0, 10), 4);
        Due.is("not said", x.ofRun(0, 9), -2);
        Due.is("nor says it so", x.ofRun(0, 5), 0);
        Due.go(x, 0, 200);
        Due.is("over with the fourth", x.ofRun(0, 10), 4);
        Due.is("said with the fifth", x.ofRun(0, 9), 5);
        AllHome y = Due.withHuts("b", "");
        y.way(8);
        y.run(0);
        Due.go(y, 0, 0, 0, 400);
        Due.is("lost: over with the third", y.ofRun(0, 10), 3);
        Due.go(y, 0, 300, 200, 200, 300);
        Due.is("over with the third yet", y.ofRun(0, 10), 3);
        Due.is("never said", y.ofRun(0, 9), -2);
    }

    private static void ofHutIsVoidWhereNothingIsKept() {
        int[][] kept = {{}, {3}, {4, 5, 6}, {}, {7, 8}, {9, 10}, {4, 5, 6}, {7, 8}, {9, 10}};
        for (int kind = 0; kind < 9; kind++) {
            AllHome x = Scenes.midRun(kind);
            for (int what = 0; what <= 10; what++) {
                boolean is = what < 3;
                for (int k : kept[kind]) {
                    is |= k == what;
                }
                for (int h = 0; h < 2; h++) {
                    Due.is("kind " + kind + " hut " + h + " what " + what, x.ofHut(1, h, what) == VOID ? 0 : 1, is ? 1 : 0);
                }
            }
            Edge.refusedFor("ofHut(0, 0, what)", midRun(kind), (y, what) -> y.ofHut(0, 0, what), VOID, 11, 12);
            Edge.refusedForOdd("ofHut(0, 0, what)", midRun(kind), (y, what) -> y.ofHut(0, 0, what), VOID);
            Edge.refusedFor("ofHut(0, hut, 0)", midRun(kind), (y, hut) -> y.ofHut(0, hut, 0), VOID, 2, 5, 6);
            Edge.refusedForOdd("ofHut(0, hut, 0)", midRun(kind), (y, hut) -> y.ofHut(0, hut, 0), VOID);
            Edge.refusedFor("ofHut(run, 0, 0)", midRun(kind), (y, run) -> y.ofHut(run, 0, 0), VOID, 2, 3, 4);
            Edge.refusedForOdd("ofHut(run, 0, 0)", midRun(kind), (y, run) -> y.ofHut(run, 0, 0), VOID);
        }
        AllHome six = Scenes.allFull();
        Due.is("the sixth hut", six.ofHut(3, 5, 2), 0);
        Due.is("a seventh", six.ofHut(3, 6, 2), VOID);
        Due.is("a fifth run", six.ofHut(4, 0, 0), VOID);
    }

    private static void wordsOnTheWay() {
        for (int kind = 0; kind < 9; kind++) {
            AllHome x = Scenes.midRun(kind);
            int[][] want = {{0, 1}, {0, 1}, {1, 0}, {1, 0}};
            for (int i = 0; i < 4; i++) {
                Due.is("from", x.word(1, i, 0), want[i][0]);
                Due.is("to", x.word(1, i, 1), want[i][1]);
                Due.is("has units", x.word(1, i, 2) > 0 ? 1 : 0, kind == 1 ? 1 : 0);
            }
            Edge.refusedFor("word(1, i, 0)", midRun(kind), (y, i) -> y.word(1, i, 0), -1, 4, 5, 7, 8);
            Edge.refusedForOdd("word(1, i, 0)", midRun(kind), (y, i) -> y.word(1, i, 0), -1);
            Edge.refusedFor("word(1, 0, what)", midRun(kind), (y, what) -> y.word(1, 0, what), -1, 3, 4);
            Edge.refusedForOdd("word(1, 0, what)", midRun(kind), (y, what) -> y.word(1, 0, what), -1);
            Edge.refusedFor("word(run, 0, 0)", midRun(kind), (y, run) -> y.word(run, 0, 0), -1, 2, 3, 4);
            Edge.refusedForOdd("word(run, 0, 0)", midRun(kind), (y, run) -> y.word(run, 0, 0), -1);
        }
    }

    private static void notesOnTheWay() {
        for (int kind = 0; kind < 9; kind++) {
            AllHome x = Scenes.midRun(kind);
            int notes = x.ofRun(1, 3);
            Due.is("kind " + kind + " has a note", notes > 0 ? 1 : 0, kind == 0 || kind == 3 || kind == 2 ? 0 : 1);
            Edge.refusedFor("note(1, i, 0)", midRun(kind), (y, i) -> y.note(1, i, 0), VOID, notes, 7, 8);
            Edge.refusedForOdd("note(1, i, 0)", midRun(kind), (y, i) -> y.note(1, i, 0), VOID);
            Edge.refusedFor("note(1, 0, what)", midRun(kind), (y, what) -> y.note(1, 0, what), VOID, 3, 4);
            Edge.refusedForOdd("note(1, 0, what)", midRun(kind), (y, what) -> y.note(1, 0, what), VOID);
            Edge.refusedFor("note(run, 0, 0)", midRun(kind), (y, run) -> y.note(run, 0, 0), VOID, 2, 3, 4);
            Edge.refusedForOdd("note(run, 0, 0)", midRun(kind), (y, run) -> y.note(run, 0, 0), VOID);
        }
    }

    private static void totalOfALanternAlone() {
        for (int kind = 0; kind < 9; kind++) {
            if (kind == 1) {
                Due.is("total", Scenes.midRun(1).total(1), 64);
            } else {
                Edge.refused("total of kind " + kind, midRun(kind), x -> x.total(1), -2);
            }
            Edge.refusedFor("total(run) of kind " + kind, midRun(kind), (x, run) -> x.total(run), -1, 2, 3, 4);
            Edge.refusedForOdd("total(run) of kind " + kind, midRun(kind), (x, run) -> x.total(run), -1);
        }
    }

    public static void main(String[] args) {
        for (int kind = 0; kind < 9; kind++) {
            int theKind = kind;
            MID_RUN.add(() -> Scenes.midRun(theKind));
        }
        runsFromNoneToThree();
        noRunWithoutAWay();
        noRunWithoutAHut();
        noStepOfARunThatThereIsNot();
        sortsFromNoneToFour();
        noNumberThatThereIsNot();
        theLastWordAndNoteAreTaken();
        hutsThatSleepDoNotGoOn();
        theHutOfTheLastNumberGoesOn();
        askingIsNotForAll();
        eightWordsAreTheMost();
        eightNotesAreTheMost();
        behindTheLastLineNothing();
        noHutNoWordOnTheWay();
        stepsOneToSixty();
        stepsOfARunAndAShelf();
        stepsOfNoRowOfShorts();
        theRowIsMissing();
        theRowEnds();
        itEndsWhereOneIsRefused();
        theShortIsWhatWasKeptOfIt();
        ofRunFromNoneToTen();
        theStepAtWhich();
        ofHutIsVoidWhereNothingIsKept();
        wordsOnTheWay();
        notesOnTheWay();
        totalOfALanternAlone();
        Due.end("EdgesRunsTest");
    }
}
