/** Promise 10: steps from a row on a shelf. */
final class StepsOfRows {
    private StepsOfRows() {
    }

    private static AllHome with(int... codes) {
        AllHome x = Due.withHuts("3b", "a");
        x.way(0);
        x.run(0);
        x.row(0, 1, codes.length);
        for (int i = 0; i < codes.length; i++) {
            x.put(0, i, codes[i]);
        }
        return x;
    }

    /** From a place on, n at most: as many as are due, and as many steps more in the run. */
    private static void went(AllHome x, int i, int n, int want) {
        int done = x.ofRun(0, 1);
        Due.is("steps(0, 0, " + i + ", " + n + ") behind " + done, x.steps(0, 0, i, n), want);
        Due.is("steps of the run", x.ofRun(0, 1), done + want);
    }

    private static void ways() {
        AllHome x = with(0, 0, 0, 0, 101, 1, 400, 1);
        went(x, 0, 2, 2);
        Due.is("two words", x.ofRun(0, 2), 2);
        went(x, 2, 1, 1);
        went(x, 3, 60, 5);
        Due.is("b is asleep", x.ofHut(0, 1, 0), 0);
        Due.is("words", x.ofRun(0, 2), 2);
        Due.is("the last is b's", x.word(0, 1, 0), 1);
        went(x, 7, 60, 0);
    }

    private static void ends() {
        went(with(0, 0, 0, 0), 0, 60, 4);
        went(with(0, 0, 0, 0, 0, 100), 0, 60, 4);
        went(with(0, 1, 0), 0, 60, 1);
        went(with(0, 500), 0, 60, 1);
        went(with(0, 32767), 0, 60, 1);
        went(with(0, -1, 0), 0, 60, 1);
        went(with(0, -100), 0, 60, 1);
        went(with(0, 300), 0, 60, 1);
        went(with(0, 150), 0, 60, 1);
        went(with(-99), 0, 60, 0);
        went(with(-400), 0, 60, 0);
        went(with(0, 0), 2, 60, 0);
        went(with(0, 0), -1, 60, 0);
        went(with(0, 0), Integer.MIN_VALUE, 60, 0);
        went(with(0, 0), Integer.MAX_VALUE, 60, 0);
        went(with(0, 0), 1, 60, 1);
        went(with(), 0, 1, 0);
        int[] all = new int[60];
        for (int i = 4; i < 60; i++) {
            all[i] = 300;
        }
        AllHome x = with(all);
        x.way(3);
        x.run(1);
        Due.is("sixty", x.steps(1, 0, 0, 60), 60);
        Due.is("the last one", x.steps(1, 0, 59, 60), 1);
    }

    private static void full() {
        AllHome x = Due.withHuts("9b", "");
        x.way(0);
        x.run(0);
        x.row(0, 1, 20);
        Due.is("it ends at the ninth word", x.steps(0, 0, 0, 20), 8);
    }

    private static void refused() {
        AllHome x = with(0, 0);
        x.keep(1, 0);
        x.row(2, 2, 5);
        x.row(3, 0, 5);
        x.row(4, 4, 0);
        int[][] calls = {{-1, 0, 0, 1, -1}, {1, 0, 0, 1, -1}, {0, -1, 0, 1, -1}, {0, 6, 0, 1, -1}, {0, 0, 0, 0, -1},
            {0, 0, 0, 61, -1}, {0, 0, 0, -1, -1}, {0, 1, 0, 1, -12}, {0, 2, 0, 1, -12}, {0, 3, 0, 1, -12},
            {0, 4, 0, 1, -12}, {0, 2, -1, 1, -12}, {0, 1, 0, 61, -1}, {0, 5, 0, 1, 0}, {0, 5, -1, 60, 0}};
        for (int[] c : calls) {
            Due.is("steps(" + c[0] + ", " + c[1] + ", " + c[2] + ", " + c[3] + ")",
                x.steps(c[0], c[1], c[2], c[3]), c[4]);
        }
        Due.is("nothing was done", x.ofRun(0, 1), 0);
    }

    static void look() {
        ways();
        ends();
        full();
        refused();
    }
}
