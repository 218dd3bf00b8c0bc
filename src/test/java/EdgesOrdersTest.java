import java.util.function.Supplier;

/** The edges of terms 3 and of promises 16 to 19. */
public final class EdgesOrdersTest {
    private static final Supplier<AllHome> NO_RUN = Scenes::noRun;
    private static final Supplier<AllHome> NO_HUT = Scenes::noHut;
    private static final Supplier<AllHome> ALL_FULL = Scenes::allFull;
    private static final Supplier<AllHome> SMALL = () -> small();

    /** Two huts and one word: few states with each way; numbers of ways and kinds are the same. */
    private static AllHome small() {
        AllHome x = Due.withHuts("b", "");
        allKinds(x);
        x.run(1);
        Due.go(x, 0, 0, 0, 100);
        return x;
    }

    private static void allKinds(AllHome x) {
        for (int kind = 0; kind < 9; kind++) {
            x.way(kind);
        }
    }

    private static void eachIs(Supplier<AllHome> made, int way, int want) {
        Edge.refused("states(" + way + ")", made, x -> x.states(way), want);
        Edge.refused("least(" + way + ", 0, -1)", made, x -> x.least(way, 0, -1), want);
        Edge.refused("least(" + way + ", 1, 0)", made, x -> x.least(way, 1, 0), want);
        Edge.refused("stuck(" + way + ")", made, x -> x.stuck(way), want);
        Edge.refused("work(" + way + ", 0)", made, x -> x.work(way, 0), want);
        Edge.refused("work(" + way + ", 1)", made, x -> x.work(way, 1), want);
    }

    // ---- BAD: no such way, what, step

    private static void noOrdersOfAWayThatThereIsNot() {
        int[] none = {3, 9, 10, -1, Integer.MIN_VALUE, Integer.MAX_VALUE};
        for (int way : none) {
            eachIs(NO_RUN, way, -1);
            eachIs(NO_HUT, way, -1);
        }
        for (int way : new int[] {9, 10, -1}) {
            eachIs(SMALL, way, -1);
        }
        eachIs(ALL_FULL, 10, -1);
        eachIs(AllHome::new, 0, -1);
    }

    private static void aWhatOfNoneOrOne() {
        int[] none = {2, 3, -1, Integer.MIN_VALUE, Integer.MAX_VALUE};
        Edge.refusedFor("work(1, what)", SMALL, (x, what) -> x.work(1, what), -1, none);
        Edge.refusedFor("least(1, what, -1)", SMALL, (x, what) -> x.least(1, what, -1), -1, none);
        Edge.refusedFor("least(1, what, 0)", SMALL, (x, what) -> x.least(1, what, 0), -1, none);
        Edge.refusedFor("BAD ahead of STATE, work(1, what)", NO_HUT, (x, what) -> x.work(1, what), -1, none);
        Edge.refusedFor("BAD ahead of STATE, least(1, what, -1)", NO_HUT, (x, what) -> x.least(1, what, -1), -1, none);
        Edge.refusedFor("BAD ahead of BIG, work(1, what)", ALL_FULL, (x, what) -> x.work(1, what), -1, none);
        Edge.refusedFor("BAD ahead of BIG, least(1, what, -1)", ALL_FULL, (x, what) -> x.least(1, what, -1), -1, none);
        Edge.refusedFor("BAD ahead of NOT, least(1, what, -1)", SMALL, (x, what) -> x.least(0, what, -1), -1, none);
    }

    /** From -1, that asks how many, to the last; a number behind or ahead is none such. */
    private static void stepsOfTheLeastRun() {
        AllHome x = small();
        Due.is("so many", x.least(1, 1, -1), 5);
        int[] steps = {0, 0, 100, 1, 200};
        for (int i = 0; i < 5; i++) {
            Due.is("step " + i, x.least(1, 1, i), steps[i]);
        }
        Edge.refusedFor("least(1, 1, i)", SMALL, (y, i) -> y.least(1, 1, i), -1, 5, 6, 100, -2, -3,
            Integer.MIN_VALUE, Integer.MAX_VALUE);
        Edge.refusedFor("BAD ahead of STATE, least(0, 0, i)", NO_HUT, (y, i) -> y.least(0, 0, i), -1, -2, Integer.MIN_VALUE);
        Edge.refusedFor("BAD ahead of BIG, least(0, 0, i)", ALL_FULL, (y, i) -> y.least(0, 0, i), -1, -2, Integer.MIN_VALUE);
        Edge.refusedFor("BAD ahead of NOT, least(1, 0, i)", SMALL, (y, i) -> y.least(1, 0, i), -1, -2, Integer.MIN_VALUE);
    }

    // ---- STATE, BIG, NOT

    private static void noHutNoOrders() {
        for (int way = 0; way < 3; way++) {
            eachIs(NO_HUT, way, -5);
        }
    }

    private static void thereIsNoSuchState() {
        // WAY and RING say nothing; sums are fooled, as a hut that is awake takes the note.
        for (int kind = 0; kind < 9; kind++) {
            int theKind = kind;
            if (kind == 5 || kind == 8) {
                Due.is("EARLY of kind " + kind, small().least(kind, 0, -1), kind == 5 ? 9 : 6);
            } else {
                Edge.refused("EARLY of kind " + kind, SMALL, x -> x.least(theKind, 0, -1), -2);
            }
        }
        Edge.refused("SOON of WAY", SMALL, x -> x.least(0, 1, -1), -2);
        Edge.refused("SOON of RING", SMALL, x -> x.least(3, 1, -1), -2);
        Edge.refusedFor("no step of it, least(0, 1, i)", SMALL, (x, i) -> x.least(0, 1, i), -2, 0, 1, Integer.MAX_VALUE);
    }

    private static AllHome huts(int n) {
        AllHome x = new AllHome();
        for (int h = 0; h < n; h++) {
            x.hut();
        }
        allKinds(x);
        return x;
    }

    private static void fourHutsAreNotBigAndFiveAre() {
        for (int kind = 0; kind < 9; kind++) {
            AllHome x = huts(4);
            Due.is("states of four, kind " + kind, x.states(kind) > 0 ? 1 : 0, 1);
            Due.is("work of four", x.work(kind, 0), 2);
            Due.is("same", x.work(kind, 1), 1);
            Due.is("stuck", x.stuck(kind), kind == 0 || kind == 3 ? 2 : 0);
            for (int n = 5; n <= 6; n++) {
                int so = n;
                eachIs(() -> huts(so), kind, -4);
            }
        }
        // The word is to a hut that comes as the fifth.
        AllHome y = Due.withHuts("e", "", "", "");
        y.way(0);
        Due.is("three states", y.states(0), 3);
        y.hut();
        Due.is("five huts", y.states(0), -4);
    }

    private static AllHome orders(String... programs) {
        AllHome x = Due.withHuts(programs);
        allKinds(x);
        return x;
    }

    private static void aHundredAndFiftyStatesAreNotBig() {
        AllHome x = orders("4b;", ";");
        Due.is("150", x.states(7), 150);
        Due.is("stuck", x.stuck(7), 0);
        Due.is("work", x.work(7, 0), 66);
        Due.is("same", x.work(7, 1), 1);
        Due.is("soon", x.least(7, 1, -1), 13);
        Due.is("early", x.least(7, 0, -1), -2);
        AllHome y = orders("bb", "a", "d;");
        Due.is("150", y.states(2), 150);
        Due.is("stuck", y.stuck(2), 0);
    }

    private static void aHundredAndFiftyOneAre() {
        Supplier<AllHome> hasty = () -> orders("2b", "", "");
        eachIs(hasty, 8, -4);
        Supplier<AllHome> loose = () -> orders("b2c;3b", "d;", "");
        eachIs(loose, 6, -4);
        AllHome x = hasty.get();
        Due.is("BIG", x.states(8), -4);
        Due.is("WAY is not", x.states(0), 18);
        Due.is("BIG yet", x.states(8), -4);
        Due.is("work of WAY", x.work(0, 1), 1);
        Due.is("BIG yet", x.work(8, 1), -4);
    }

    /** Two huts that wake one another for ever, and words until eight are on the way. */
    private static void endlessOnesAreBig() {
        StringBuilder many = new StringBuilder();
        for (int k = 0; k < 30; k++) {
            many.append(k == 0 ? "b" : ";");
        }
        for (int kind = 0; kind < 9; kind++) {
            eachIs(() -> orders("9b", "9a"), kind, -4);
            AllHome x = orders(many.toString(), "");
            Due.is("lines that are not woken are no states", x.states(kind), small().states(kind));
        }
    }

    // ---- one hut alone; a state in which it says over; stuck

    private static void oneHutAlone() {
        int[] states = {2, 2, 2, 2, 4, 6, 2, 4, 4};
        int[] soon = {-2, 1, 1, -2, 3, 5, 1, 3, 3};
        AllHome x = orders("");
        for (int kind = 0; kind < 9; kind++) {
            Due.is("states of kind " + kind, x.states(kind), states[kind]);
            Due.is("soon", x.least(kind, 1, -1), soon[kind]);
            Due.is("early", x.least(kind, 0, -1), -2);
            Due.is("stuck", x.stuck(kind), soon[kind] < 0 ? 2 : 0);
            Due.is("work", x.work(kind, 0), 2);
        }
    }

    private static void aWordToNobody() {
        int[] states = {3, 3, 3, 3, 4, 6, 3, 4, 6};
        AllHome x = orders("b");
        for (int kind = 0; kind < 9; kind++) {
            Due.is("states of kind " + kind, x.states(kind), states[kind]);
            Due.is("never soon", x.least(kind, 1, -1), -2);
            Due.is("all are stuck", x.stuck(kind), states[kind]);
            Due.is("work", x.work(kind, 0), 3);
        }
    }

    /** Behind a state that says so nothing is looked for: LOOSE is fooled, and c's waking is not seen behind it. */
    private static void behindWhatIsSaidNothing() {
        AllHome x = orders("b", "c", "");
        int i = x.least(6, 0, -1);
        Due.is("fooled with", i, 6);
        Due.is("its last step is a note", x.least(6, 0, i - 1), 200);
        AllHome y = orders("");
        Due.is("SUMS: first round", y.least(5, 1, 1), 300);
        Due.is("no third round", y.states(5), 6);
    }

    /** EARLY and SOON are two states, and both may be there. */
    private static void earlyAndSoon() {
        AllHome x = orders("b", "c", "");
        Due.is("EARLY", x.least(6, 0, -1), 6);
        Due.is("SOON", x.least(6, 1, -1), 8);
        Due.is("EARLY's first", x.least(6, 0, 0), 0);
        Due.is("EARLY's last", x.least(6, 0, 5), 200);
        Due.is("none behind", x.least(6, 0, 6), -1);
        Due.is("SOON has more", x.least(6, 1, 6) >= 0 ? 1 : 0, 1);
        Due.is("none behind", x.least(6, 1, 8), -1);
    }

    /** They stand apart from runs, from other objects, and from what is asked ahead. */
    private static void askedAgainTheSame() {
        AllHome x = small();
        int[] first = new int[9];
        for (int kind = 0; kind < 9; kind++) {
            first[kind] = x.states(kind);
        }
        x.step(0, 4, 0);
        for (int kind = 8; kind >= 0; kind--) {
            Due.is("stuck and states of kind " + kind, x.stuck(kind) <= Math.max(first[kind], 0) ? 1 : 0, 1);
            Due.is("states of kind " + kind, x.states(kind), first[kind]);
        }
        Due.is("the run has its steps", x.ofRun(0, 1), 3);
    }

    public static void main(String[] args) {
        noOrdersOfAWayThatThereIsNot();
        aWhatOfNoneOrOne();
        stepsOfTheLeastRun();
        noHutNoOrders();
        thereIsNoSuchState();
        fourHutsAreNotBigAndFiveAre();
        aHundredAndFiftyStatesAreNotBig();
        aHundredAndFiftyOneAre();
        endlessOnesAreBig();
        oneHutAlone();
        aWordToNobody();
        behindWhatIsSaidNothing();
        earlyAndSoon();
        askedAgainTheSame();
        Due.end("EdgesOrdersTest");
    }
}
