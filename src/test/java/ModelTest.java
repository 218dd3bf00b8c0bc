import java.util.ArrayList;
import java.util.List;

/** Many made-up programs and steps: the class against the model. The same ones each time. */
public final class ModelTest {
    private static long seed = 20261118L;

    /** 0 .. below - 1, from a row of numbers that is always the same. */
    private static int pick(int below) {
        seed = seed * 6364136223846793005L + 1442695040888963407L;
        return (int) ((seed >>> 33) % below);
    }

    private static String program(int own, int goals, int most) {
        StringBuilder text = new StringBuilder();
        int signs = pick(most + 1);
        for (int k = 0; k < signs; k++) {
            int letter = pick(goals);
            if (pick(3) == 0) {
                text.append(';');
            } else if (letter != own) {
                if (pick(5) == 0) {
                    text.append((char) ('2' + pick(most > 6 ? 8 : 2)));
                }
                text.append((char) ('a' + letter));
            }
        }
        return text.toString();
    }

    private static List<String> programs(int n, int goals, int most) {
        List<String> texts = new ArrayList<>();
        for (int h = 0; h < n; h++) {
            texts.add(program(h, goals, most));
        }
        return texts;
    }

    private static List<List<List<Integer>>> parsed(List<String> texts) {
        List<List<List<Integer>>> all = new ArrayList<>();
        for (String text : texts) {
            all.add(Model.parse(text));
        }
        return all;
    }

    private static void compare(AllHome x, Model m, String where) {
        long[] want = {0, m.done, m.words.size(), m.notes.size(), m.over() ? 1 : 0, m.says ? 1 : 0,
            m.huts.stream().filter(h -> h.awake).count(), m.wordsSent, m.notesSent, m.saidAt, m.overAt};
        for (int what = 1; what <= 10; what++) {
            Due.is(where + " ofRun " + what, x.ofRun(0, what), want[what]);
        }
        for (int h = 0; h < m.huts.size(); h++) {
            Model.Hut hut = m.huts.get(h);
            int[] of = {hut.awake ? 1 : 0, hut.woken, hut.lineSent, hut.units, hut.out, hut.parent,
                hut.inTree ? 1 : 0, hut.sum, hut.black ? 1 : 0, hut.sent, hut.came};
            for (int what = 0; what <= 10; what++) {
                boolean kept = what < 3 || what == 3 && m.lantern() || what > 3 && what < 7 && m.stick()
                    || what > 6 && what < 9 && m.stone() || what > 8 && m.sums();
                Due.is(where + " ofHut " + h + " " + what, x.ofHut(0, h, what), kept ? of[what] : AllHome.VOID);
            }
        }
        for (int i = 0; i <= 8; i++) {
            for (int what = 0; what < 3; what++) {
                Due.is(where + " word " + i, x.word(0, i, what), i < m.words.size() ? m.words.get(i)[what] : -1);
                Due.is(where + " note " + i, x.note(0, i, what),
                    i < m.notes.size() ? m.notes.get(i)[what] : AllHome.VOID);
            }
        }
        Due.is(where + " total", x.total(0), m.lantern() ? m.total : -2);
    }

    private static void oneRun(int number) {
        int n = 1 + pick(6);
        List<String> texts = programs(n, Math.min(6, n + pick(2)), 14);
        int kind = pick(9);
        AllHome x = Due.withHuts(texts.toArray(new String[0]));
        Due.is("huts " + texts, x.count(0), n);
        x.way(kind);
        Due.is("run", x.run(0), 0);
        Model m = new Model(parsed(texts), kind);
        int[] sorts = {0, 0, 0, 0, 0, 1, 1, 1, 2, 2, 3, 4};
        // Some runs bring no notes, or no words, so that what is on the way grows full.
        int slow = pick(4);
        for (int k = 0; k < 120; k++) {
            int sort = sorts[pick(sorts.length)];
            if (slow == 0 && sort == 2 || slow == 1 && sort == 1 && pick(4) > 0 || sort == 4 && pick(3) > 0) {
                sort = 0;
            }
            int most = sort == 0 ? n : sort == 2 ? m.notes.size() : sort == 3 ? 1 : m.words.size();
            int i = pick(most + 1) - (pick(30) == 0 ? 1 : 0);
            Model next = m.behind(sort, i);
            String where = texts + " kind " + kind + " step " + k + ": " + sort + " " + i;
            Due.is(where, x.step(0, sort, i), next == null ? m.refusal : next.done);
            m = next == null ? m : next;
            compare(x, m, "run " + number + " " + where);
        }
    }

    private static void compareLeast(AllHome x, int kind, int what, List<Integer> path, String where) {
        if (path == null) {
            Due.is(where + " least", x.least(kind, what, -1), -2);
            return;
        }
        Due.is(where + " least", x.least(kind, what, -1), path.size());
        for (int i = 0; i < path.size(); i++) {
            Due.is(where + " least " + i, x.least(kind, what, i), path.get(i));
        }
        Due.is(where + " least behind", x.least(kind, what, path.size()), -1);
    }

    private static int small = 0;

    private static void oneOfAllOrders() {
        int n = 1 + pick(4);
        List<String> texts = programs(n, Math.min(6, n + pick(2)), pick(6));
        AllHome x = Due.withHuts(texts.toArray(new String[0]));
        Model.All plain = Model.all(parsed(texts), 0, 150);
        for (int kind = 0; kind < 9; kind++) {
            x.way(kind);
        }
        for (int k = 0; k < 9; k++) {
            int kind = (k * 5 + n) % 9;
            Model.All all = kind == 0 ? plain : Model.all(parsed(texts), kind, 150);
            String where = texts + " kind " + kind;
            boolean big = all.size > 150;
            small += big ? 0 : 1;
            Due.is(where + " states", x.states(kind), big ? -4 : all.size);
            Due.is(where + " stuck", x.stuck(kind), big ? -4 : all.stuck);
            Due.is(where + " work", x.work(kind, 0), big ? -4 : all.works);
            boolean bigToo = big || plain.size > 150;
            Due.is(where + " same", x.work(kind, 1), bigToo ? -4 : all.works == plain.works ? 1 : 0);
            if (big) {
                Due.is(where + " early", x.least(kind, 0, -1), -4);
                Due.is(where + " soon", x.least(kind, 1, 0), -4);
            } else {
                compareLeast(x, kind, 0, all.early, where + " early");
                compareLeast(x, kind, 1, all.soon, where + " soon");
            }
        }
    }

    public static void main(String[] args) {
        for (int k = 0; k < 900; k++) {
            oneRun(k);
        }
        for (int k = 0; k < 250; k++) {
            oneOfAllOrders();
        }
        Due.isTrue("enough of all orders were small: " + small, small > 500);
        Due.end("ModelTest");
    }
}
