/** All that an object tells when it is asked, as one text, in fewer calls than an object is made for. */
final class Told {
    /** What is kept of huts by each kind of way: a first what and a last one of ofHut. */
    private static final int[][] KEPT =
        {{0, -1}, {3, 3}, {4, 6}, {0, -1}, {7, 8}, {9, 10}, {4, 6}, {7, 8}, {9, 10}};
    private static final int MOST_CALLS = 400;

    private final AllHome x;
    private final StringBuilder text = new StringBuilder();
    private int calls;

    private Told(AllHome x) {
        this.x = x;
    }

    /** To be called last: the tape is read by making a hut of it, if that may be. */
    static String of(AllHome x) {
        Told told = new Told(x);
        told.counts();
        told.huts();
        told.ways();
        for (int run = 0; run < x.count(2); run++) {
            told.run(run);
        }
        told.shelves();
        told.tape();
        Due.isTrue("read in " + told.calls + " calls", told.calls <= MOST_CALLS);
        return told.text.toString();
    }

    private void add(long answer) {
        calls++;
        text.append(answer).append(' ');
    }

    private void part(String name) {
        text.append('\n').append(name).append(' ');
    }

    private void counts() {
        part("counts");
        for (int what = 0; what <= 4; what++) {
            add(x.count(what));
        }
        part("trace");
        for (int i = 0; i < x.count(4); i++) {
            add(x.trace(i));
        }
    }

    private void huts() {
        for (int h = 0; h < x.count(0); h++) {
            hut(h);
        }
    }

    private void hut(int h) {
        part("hut " + h);
        int lines = x.line(h, -1);
        add(lines);
        for (int line = 0; line < Math.min(lines, 4); line++) {
            int words = x.line(h, line);
            add(words);
            for (int i = 0; i < Math.min(words, 4); i++) {
                add(x.goesTo(h, line, i));
            }
        }
    }

    private void ways() {
        for (int way = 0; way < x.count(1); way++) {
            part("way " + way);
            add(x.kindOf(way));
            if (way < 3) {
                add(x.states(way));
                add(x.least(way, 0, -1));
                add(x.least(way, 1, -1));
                add(x.stuck(way));
                add(x.work(way, 0));
                add(x.work(way, 1));
            }
        }
    }

    private void run(int run) {
        part("run " + run);
        for (int what = 0; what <= 10; what++) {
            add(x.ofRun(run, what));
        }
        add(x.total(run));
        int[] kept = KEPT[x.kindOf(x.ofRun(run, 0))];
        for (int h = 0; h < x.count(0); h++) {
            part("of hut " + h);
            for (int what = 0; what <= 10; what++) {
                if (what < 3 || what >= kept[0] && what <= kept[1]) {
                    add(x.ofHut(run, h, what));
                }
            }
        }
        part("words and notes");
        for (int what = 0; what < 3; what++) {
            for (int i = 0; i < x.ofRun(run, 2); i++) {
                add(x.word(run, i, what));
            }
            for (int i = 0; i < x.ofRun(run, 3); i++) {
                add(x.note(run, i, what));
            }
        }
    }

    private void shelves() {
        for (int shelf = 0; shelf < 6; shelf++) {
            part("shelf " + shelf);
            add(x.taken(shelf, 0));
            for (int i : new int[] {0, 1, 2, 3, 58, 59, 60}) {
                add(x.element(shelf, i));
            }
        }
    }

    private void tape() {
        part("tape");
        int huts = x.count(0);
        add(x.hut());
        add(x.count(3));
        if (x.count(0) > huts) {
            hut(huts);
        }
    }
}
