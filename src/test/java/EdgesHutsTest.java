import java.util.function.Supplier;

/** The edges of terms 1 and of promises 1 to 7, a test for each sentence that names one. */
public final class EdgesHutsTest {
    private static final Supplier<AllHome> NEW = AllHome::new;
    private static final Supplier<AllHome> NO_RUN = Scenes::noRun;
    private static final Supplier<AllHome> MID_RUN = () -> Scenes.midRun(1);
    private static final Supplier<AllHome> ALL_FULL = Scenes::allFull;
    private static final Supplier<AllHome> SIX_HUTS = Scenes::sixHuts;
    private static final Supplier<AllHome> FULL_TAPE = Scenes::fullTape;

    // ---- promise 1: no huts, no ways; and nothing that needs them

    private static void aNewObjectRefusesEachNumber() {
        Edge.refused("line", NEW, x -> x.line(0, -1), -1);
        Edge.refused("goesTo", NEW, x -> x.goesTo(0, 0, 0), -1);
        Edge.refused("kindOf", NEW, x -> x.kindOf(0), -1);
        Edge.refused("run", NEW, x -> x.run(0), -1);
        Edge.refused("step", NEW, x -> x.step(0, 0, 0), -1);
        Edge.refused("steps", NEW, x -> x.steps(0, 0, 0, 1), -1);
        Edge.refused("ofRun", NEW, x -> x.ofRun(0, 0), -1);
        Edge.refused("ofHut", NEW, x -> x.ofHut(0, 0, 0), AllHome.VOID);
        Edge.refused("word", NEW, x -> x.word(0, 0, 0), -1);
        Edge.refused("note", NEW, x -> x.note(0, 0, 0), AllHome.VOID);
        Edge.refused("total", NEW, x -> x.total(0), -1);
        Edge.refused("states", NEW, x -> x.states(0), -1);
        Edge.refused("least", NEW, x -> x.least(0, 0, -1), -1);
        Edge.refused("stuck", NEW, x -> x.stuck(0), -1);
        Edge.refused("work", NEW, x -> x.work(0, 0), -1);
        Edge.refused("act", NEW, x -> x.act(0, 0, 1), 0);
        Edge.refused("trace", NEW, x -> x.trace(0), -1);
        Edge.refused("keep", NEW, x -> x.keep(0, 0), -1);
        Edge.refused("put", NEW, x -> x.put(0, 0, 1), -11);
        Edge.refused("element", NEW, x -> x.element(0, 0), Long.MIN_VALUE);
        Edge.refused("shift", NEW, x -> x.shift(0, 0, 1, 0, 0), -11);
        Edge.refused("taken", NEW, x -> x.taken(0, 0), -11);
    }

    // ---- promise 2: n (1 .. 4) bytes, the lowest of v first; BAD, FULL

    private static void oneToFourBytesCome() {
        for (int n = 1; n <= 4; n++) {
            AllHome x = new AllHome();
            Due.is("feed " + n, x.feed(n, 0x62626262), n);
            Due.is("all of them", x.hut(), 0);
            Due.is("words", x.line(0, 0), n);
        }
        Edge.refusedFor("feed(n, ..)", NO_RUN, (x, n) -> x.feed(n, 98), -1, 0, 5, -1, 8, 64);
        Edge.refusedForOdd("feed(n, ..)", NO_RUN, (x, n) -> x.feed(n, 98), -1);
        Edge.refusedFor("feed(n, ..) in a run", MID_RUN, (x, n) -> x.feed(n, 98), -1, 0, 5, -1);
    }

    private static void theLowestByteIsFirst() {
        AllHome x = new AllHome();
        x.feed(4, 'b' | 'c' << 8 | 'd' << 16 | 'e' << 24);
        x.hut();
        for (int i = 0; i < 4; i++) {
            Due.is("word " + i, x.goesTo(0, 0, i), 1 + i);
        }
        AllHome y = new AllHome();
        y.feed(2, 'b' | 'c' << 8 | 'd' << 16 | 'e' << 24);
        y.hut();
        Due.is("the higher ones stay away", y.line(0, 0), 2);
    }

    private static void oddNumbersHaveBytes() {
        int[] odd = {Integer.MIN_VALUE, Integer.MAX_VALUE, -1};
        int[][] bytes = {{0, 0, 0, 0x80}, {255, 255, 255, 127}, {255, 255, 255, 255}};
        for (int k = 0; k < 3; k++) {
            for (int n = 1; n <= 4; n++) {
                AllHome x = new AllHome();
                Due.is("feed of " + odd[k], x.feed(n, odd[k]), n);
                Due.is("a fault at once", x.hut(), -100);
                AllHome y = Due.withHuts();
                // Bytes that are cut or have a sign would pass for letters here.
                Due.feed(y, "b");
                Due.is("feed behind b", y.feed(n, odd[k]), 1 + n);
                Due.is("byte " + bytes[k][0] + " is no sign", y.hut(), -101);
            }
        }
        for (int high : new int[] {128, 256, 0x6200}) {
            AllHome x = new AllHome();
            x.feed(1, 'b' + high);
            Due.is("b and " + high, x.hut(), high == 128 ? -100 : 0);
        }
    }

    private static void sixtyBytesAreTheMost() {
        for (int n = 1; n <= 4; n++) {
            AllHome x = new AllHome();
            for (int k = 0; k < 60 - n; k++) {
                x.feed(1, 'b');
            }
            Due.is("up to 60 by " + n, x.feed(n, 0x62626262), 60);
            Due.is("all of them", x.hut(), 0);
            Due.is("words", x.line(0, 0), 60);
            int less = n;
            Supplier<AllHome> oneMore = () -> {
                AllHome y = Due.withHuts("b");
                for (int k = 0; k < 61 - less; k++) {
                    y.feed(1, 'a');
                }
                return y;
            };
            Edge.refused("61 by " + n, oneMore, y -> y.feed(less, 0x3b3b3b3b), -3);
        }
        Edge.refusedFor("feed(n, ..) of a full tape", FULL_TAPE, (x, n) -> x.feed(n, 98), -3, 1, 2, 3, 4);
        Edge.refusedForOdd("feed(1, v) of a full tape", FULL_TAPE, (x, v) -> x.feed(1, v), -3);
    }

    private static void badIsNamedAheadOfFull() {
        Edge.refusedFor("feed(n, ..) of a full tape", FULL_TAPE, (x, n) -> x.feed(n, 98), -1, 0, 5, -1,
            Integer.MIN_VALUE, Integer.MAX_VALUE);
    }

    // ---- terms 1 and promise 3: the program, its fault, STATE and FULL

    private static void fault(int own, String program, int place) {
        AllHome x = new AllHome();
        for (int h = 0; h < own; h++) {
            x.hut();
        }
        Due.is("feed", x.feed(1, program.charAt(0)), 1);
        Due.feed(x, program.substring(1));
        Due.is("hut " + own + " by " + program, x.hut(), -100 - place);
        Due.is("no hut came", x.count(0), own);
        Due.is("the tape is empty then", x.count(3), 0);
        Due.is("the next program is read from its start", Due.hut(x, own == 0 ? "b" : "a"), own);
        Due.is("and has its words alone", x.line(own, 0), 1);
    }

    private static void good(int own, String program, int... words) {
        AllHome x = new AllHome();
        for (int h = 0; h < own; h++) {
            x.hut();
        }
        Due.is("hut " + own + " by " + program, Due.hut(x, program), own);
        Due.is("the tape is empty then", x.count(3), 0);
        Due.is("lines", x.line(own, -1), words.length);
        for (int k = 0; k < words.length; k++) {
            Due.is("words of line " + k, x.line(own, k), words[k]);
        }
        Due.is("no line behind", x.line(own, words.length), -1);
    }

    private static void lettersOfOtherHutsAlone() {
        for (int own = 0; own < 6; own++) {
            for (int letter = 0; letter < 6; letter++) {
                String text = String.valueOf((char) ('a' + letter));
                if (letter == own) {
                    fault(own, text, 0);
                    fault(own, "2" + text, 1);
                    fault(own, ";" + text, 1);
                } else {
                    good(own, text, 1);
                    good(own, "9" + text, 9);
                }
            }
            for (char sign : new char[] {'`', 'g', 'A', 'F', 'z', ' ', '\n', 0, 127, 128, 225, 255}) {
                fault(own, String.valueOf(sign), 0);
            }
        }
    }

    private static void digitsTwoToNine() {
        for (char digit = 0; digit < 256; digit++) {
            if (digit >= '2' && digit <= '9') {
                good(0, digit + "b", digit - '0');
                fault(0, String.valueOf(digit), 1);
            } else if (digit < 'b' && digit != ';') {
                fault(0, digit + "b", 0);
            }
        }
    }

    private static void aDigitWantsALetter() {
        fault(0, "2;", 1);
        fault(0, "22b", 1);
        fault(0, "2b3", 3);
        fault(0, "2b;4", 4);
        fault(0, "91b", 1);
        fault(0, "9ab", 1);
        good(0, "2b3c", 5);
        good(0, "b2cb", 4);
    }

    private static void linesArePartedBySemicolons() {
        good(0, "", 0);
        good(0, ";", 0, 0);
        good(0, "b;", 1, 0);
        good(0, ";b", 0, 1);
        good(0, "b;;9c", 1, 0, 9);
        int[] none = new int[61];
        good(0, ";".repeat(60), none);
        int[] last = new int[60];
        last[59] = 1;
        good(0, ";".repeat(59) + "b", last);
    }

    /** The length, if it ends too early; else the place of the byte. */
    private static void faultsFromTheFirstPlaceToTheLast() {
        fault(0, "a" + "b".repeat(59), 0);
        fault(0, "b".repeat(59) + "a", 59);
        fault(0, "b".repeat(58) + "3a", 59);
        fault(0, "b".repeat(58) + "33", 59);
        fault(0, "b".repeat(59) + "3", 60);
        fault(0, "b".repeat(58) + "3", 59);
        fault(0, "3", 1);
        fault(0, "a3", 0);
        fault(0, "aa3", 0);
        good(0, "b".repeat(58) + "3b", 61);
        good(0, "9b".repeat(30), 270);
    }

    private static void hutsFromNoneToFive() {
        AllHome x = new AllHome();
        for (int h = 0; h < 6; h++) {
            Due.is("hut", Due.hut(x, h == 0 ? "f" : "a"), h);
            Due.is("so many", x.count(0), h + 1);
        }
        Edge.refused("a seventh; the tape stays", SIX_HUTS, y -> y.hut(), -3);
        AllHome z = Scenes.sixHuts();
        z.hut();
        Due.is("bytes stay", z.count(3), 2);
        Due.is("feed goes on", z.feed(1, 'b'), 3);
    }

    private static void noHutWhenARunBegan() {
        Edge.refused("hut in a run", MID_RUN, x -> x.hut(), -5);
        AllHome x = Scenes.midRun(1);
        x.hut();
        Due.is("the tape stays", x.count(3), 2);
        Due.is("feed goes on", x.feed(1, 'b'), 3);
        Supplier<AllHome> emptyTape = () -> {
            AllHome y = Due.withHuts("b");
            y.way(0);
            y.run(0);
            return y;
        };
        Edge.refused("hut of an empty tape in a run", emptyTape, y -> y.hut(), -5);
    }

    private static void aRefusedRunLetsHutsCome() {
        AllHome x = new AllHome();
        x.way(0);
        Due.is("no hut", x.run(0), -5);
        Due.is("no way", x.run(1), -1);
        Due.is("a hut comes", Due.hut(x, "b"), 0);
        Due.is("no way", x.run(1), -1);
        Due.is("one more comes", Due.hut(x, "a"), 1);
        Due.is("a run begins", x.run(0), 0);
        Due.is("no more", x.hut(), -5);
    }

    private static void stateIsNamedAheadOfFull() {
        Edge.refused("hut of six in a run", ALL_FULL, x -> x.hut(), -5);
        AllHome x = Scenes.allFull();
        x.hut();
        Due.is("the tape stays", x.count(3), 60);
    }

    // ---- promises 4 and 5

    private static void linesOfAHut() {
        AllHome x = Scenes.noRun();
        Due.is("lines", x.line(0, -1), 2);
        Due.is("the first", x.line(0, 0), 3);
        Due.is("the last", x.line(0, 1), 1);
        Due.is("the last hut", x.line(2, 0), 1);
        Edge.refusedFor("line(0, line)", NO_RUN, (y, line) -> y.line(0, line), -1, -2, 2, 3, 61,
            Integer.MIN_VALUE, Integer.MAX_VALUE);
        Edge.refusedFor("line(hut, -1)", NO_RUN, (y, hut) -> y.line(hut, -1), -1, 3, 4, 5, 6);
        Edge.refusedForOdd("line(hut, -1)", NO_RUN, (y, hut) -> y.line(hut, -1), -1);
        Edge.refusedForOdd("line(hut, 0)", NO_RUN, (y, hut) -> y.line(hut, 0), -1);
    }

    private static void wordsOfALine() {
        AllHome x = Scenes.noRun();
        int[] goals = {1, 2, 2};
        for (int i = 0; i < 3; i++) {
            Due.is("word " + i, x.goesTo(0, 0, i), goals[i]);
        }
        Due.is("of the last line", x.goesTo(0, 1, 0), 1);
        Edge.refusedFor("goesTo(0, 0, i)", NO_RUN, (y, i) -> y.goesTo(0, 0, i), -1, 3, 4, 60, 270);
        Edge.refusedForOdd("goesTo(0, 0, i)", NO_RUN, (y, i) -> y.goesTo(0, 0, i), -1);
        Edge.refusedFor("goesTo(0, 1, i)", NO_RUN, (y, i) -> y.goesTo(0, 1, i), -1, 1, -1);
        Edge.refusedFor("goesTo(0, line, 0)", NO_RUN, (y, line) -> y.goesTo(0, line, 0), -1, -2, 2, 61);
        Edge.refusedForOdd("goesTo(0, line, 0)", NO_RUN, (y, line) -> y.goesTo(0, line, 0), -1);
        Edge.refusedFor("goesTo(hut, 0, 0)", NO_RUN, (y, hut) -> y.goesTo(hut, 0, 0), -1, 3, 5, 6);
        Edge.refusedForOdd("goesTo(hut, 0, 0)", NO_RUN, (y, hut) -> y.goesTo(hut, 0, 0), -1);
    }

    private static void linesAndWordsOfSixHuts() {
        AllHome x = Scenes.allFull();
        Due.is("the last hut", x.line(5, -1), 1);
        Due.is("its word", x.goesTo(5, 0, 0), 0);
        Edge.refused("a seventh hut", ALL_FULL, y -> y.line(6, -1), -1);
        Edge.refused("its word", ALL_FULL, y -> y.goesTo(6, 0, 0), -1);
    }

    // ---- promises 6 and 7

    private static void kindsFromNoneToEight() {
        for (int kind = 0; kind <= 8; kind++) {
            AllHome x = new AllHome();
            Due.is("way", x.way(kind), 0);
            Due.is("its kind", x.kindOf(0), kind);
        }
        Edge.refusedFor("way(kind)", NO_RUN, (x, kind) -> x.way(kind), -1, 9, 10);
        Edge.refusedForOdd("way(kind)", NO_RUN, (x, kind) -> x.way(kind), -1);
    }

    private static void waysFromNoneToNine() {
        AllHome x = new AllHome();
        for (int way = 0; way < 10; way++) {
            Due.is("way", x.way(way % 9), way);
        }
        Due.is("the last one", x.kindOf(9), 0);
        Edge.refusedFor("an eleventh, way(kind)", ALL_FULL, (y, kind) -> y.way(kind), -3, 0, 8);
        Edge.refusedFor("BAD ahead of FULL, way(kind)", ALL_FULL, (y, kind) -> y.way(kind), -1, 9, -1,
            Integer.MIN_VALUE, Integer.MAX_VALUE);
        Edge.refusedFor("kindOf(way) of ten", ALL_FULL, (y, way) -> y.kindOf(way), -1, 10, 11, -1);
        Edge.refusedFor("kindOf(way) of three", NO_RUN, (y, way) -> y.kindOf(way), -1, 3, 9);
        Edge.refusedForOdd("kindOf(way) of three", NO_RUN, (y, way) -> y.kindOf(way), -1);
    }

    private static void waysComeBehindRuns() {
        AllHome x = Scenes.midRun(1);
        Due.is("a way", x.way(5), 3);
        Due.is("a run with it", x.run(3), 2);
    }

    public static void main(String[] args) {
        aNewObjectRefusesEachNumber();
        oneToFourBytesCome();
        theLowestByteIsFirst();
        oddNumbersHaveBytes();
        sixtyBytesAreTheMost();
        badIsNamedAheadOfFull();
        lettersOfOtherHutsAlone();
        digitsTwoToNine();
        aDigitWantsALetter();
        linesArePartedBySemicolons();
        faultsFromTheFirstPlaceToTheLast();
        hutsFromNoneToFive();
        noHutWhenARunBegan();
        aRefusedRunLetsHutsCome();
        stateIsNamedAheadOfFull();
        linesOfAHut();
        wordsOfALine();
        linesAndWordsOfSixHuts();
        kindsFromNoneToEight();
        waysFromNoneToNine();
        waysComeBehindRuns();
        Due.end("EdgesHutsTest");
    }
}
