/** What the tests share: answers that are due, counted when they are wrong, and small makers. */
final class Due {
    private static int wrong = 0;
    private static int looked = 0;

    private Due() {
    }

    static void is(String call, long got, long want) {
        looked++;
        if (got != want) {
            wrong++;
            System.out.println(call + " answered " + got + ", due is " + want);
        }
    }

    static void isTrue(String what, boolean got) {
        is(what, got ? 1 : 0, 1);
    }

    static void same(String what, String got, String want) {
        looked++;
        if (!got.equals(want)) {
            wrong++;
            System.out.println(what + ": told is" + got + "\nand due is" + want);
        }
    }

    /** To be called last: the exit code is 1 if an answer was wrong. */
    static void end(String name) {
        System.out.println(name + ": " + looked + " answers looked at, " + wrong + " wrong");
        System.exit(wrong == 0 && looked > 0 ? 0 : 1);
    }

    static void feed(AllHome x, String text) {
        for (int i = 0; i < text.length(); i++) {
            x.feed(1, text.charAt(i));
        }
    }

    /** Feeds a program and makes the hut: what hut() answers. */
    static int hut(AllHome x, String program) {
        feed(x, program);
        return x.hut();
    }

    /** A new object with these huts. */
    static AllHome withHuts(String... programs) {
        AllHome x = new AllHome();
        for (String program : programs) {
            hut(x, program);
        }
        return x;
    }

    /** Does steps, each told as 100 * sort + number, and looks that none is refused. */
    static void go(AllHome x, int run, int... codes) {
        for (int code : codes) {
            int before = x.ofRun(run, 1);
            is("step " + code + " of run " + run + " behind " + before, x.step(run, code / 100, code % 100), before + 1);
        }
    }
}
