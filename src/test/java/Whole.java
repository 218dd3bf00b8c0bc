import java.util.ArrayList;
import java.util.HashMap;
import java.util.List;
import java.util.Map;

/** The whole class once more, by Model and Host, with Java's texts and lists: each call by its name and numbers. */
final class Whole {
    static final String[] NAMES = {"feed", "hut", "line", "goesTo", "way", "kindOf", "run", "step", "steps", "ofRun",
        "ofHut", "word", "note", "total", "states", "least", "stuck", "work", "act", "trace", "keep", "row", "put",
        "element", "shift", "taken", "count"};
    static final int[] NUMBERS = {2, 0, 2, 3, 1, 1, 1, 3, 4, 2, 3, 3, 3, 1, 1, 3, 1, 2, 3, 1, 2, 3, 3, 2, 5, 2, 1};

    final StringBuilder tape = new StringBuilder();
    final List<List<List<Integer>>> huts = new ArrayList<>();
    final List<Host.Way> ways = new ArrayList<>();
    final List<Model> runs = new ArrayList<>();
    final List<Integer> waysOfRuns = new ArrayList<>();
    private final Host host = new Host();
    private final Map<Integer, Model.All> orders = new HashMap<>();
    private int[] latest = {0};

    private static boolean in(int number, int below) {
        return number >= 0 && number < below;
    }

    long answer(int call, int[] a, long v) {
        return switch (NAMES[call]) {
            case "feed" -> feed(a[0], a[1]);
            case "hut" -> hut();
            case "line" -> line(a[0], a[1]);
            case "goesTo" -> goesTo(a[0], a[1], a[2]);
            case "way" -> way(a[0]);
            case "kindOf" -> in(a[0], ways.size()) ? Host.kindOf(ways.get(a[0])) : -1;
            case "run" -> run(a[0]);
            case "step" -> in(a[0], runs.size()) && in(a[1], 5) ? step(a[0], a[1], a[2]) : -1;
            case "steps" -> steps(a[0], a[1], a[2], a[3]);
            case "ofRun" -> in(a[0], runs.size()) && in(a[1], 11) ? ofRun(a[0], a[1]) : -1;
            case "ofHut" -> ofHut(a[0], a[1], a[2]);
            case "word" -> onTheWay(a, true, -1);
            case "note" -> onTheWay(a, false, -2000000000);
            case "total" -> !in(a[0], runs.size()) ? -1 : runs.get(a[0]).lantern() ? runs.get(a[0]).total : -2;
            case "states", "least", "stuck", "work" -> ofOrders(NAMES[call], a);
            case "act" -> act(a[0], a[1], a[2]);
            case "trace" -> in(a[0], Math.min(latest.length - 1, 24)) ? latest[a[0] + 1] : -1;
            case "keep" -> keep(a[0], a[1]);
            case "row" -> in(a[0], 6) && in(a[1], 5) && a[2] <= 60 ? host.row(a[0], a[1], a[2]) : -1;
            case "put" -> in(a[0], 6) ? host.put(a[0], a[1], v) : -1;
            case "element" -> in(a[0], 6) ? host.element(a[0], a[1]) : Long.MIN_VALUE;
            case "shift" -> in(a[0], 6) && in(a[2], 6) ? host.shift(a[0], a[1], a[2], a[3], a[4]) : -1;
            case "taken" -> in(a[0], 6) && in(a[1], 9) ? host.taken(a[0], a[1]) : -1;
            default -> count(a[0]);
        };
    }

    static long asked(AllHome x, int call, int[] a, long v) {
        return switch (NAMES[call]) {
            case "feed" -> x.feed(a[0], a[1]);
            case "hut" -> x.hut();
            case "line" -> x.line(a[0], a[1]);
            case "goesTo" -> x.goesTo(a[0], a[1], a[2]);
            case "way" -> x.way(a[0]);
            case "kindOf" -> x.kindOf(a[0]);
            case "run" -> x.run(a[0]);
            case "step" -> x.step(a[0], a[1], a[2]);
            case "steps" -> x.steps(a[0], a[1], a[2], a[3]);
            case "ofRun" -> x.ofRun(a[0], a[1]);
            case "ofHut" -> x.ofHut(a[0], a[1], a[2]);
            case "word" -> x.word(a[0], a[1], a[2]);
            case "note" -> x.note(a[0], a[1], a[2]);
            case "total" -> x.total(a[0]);
            case "states" -> x.states(a[0]);
            case "least" -> x.least(a[0], a[1], a[2]);
            case "stuck" -> x.stuck(a[0]);
            case "work" -> x.work(a[0], a[1]);
            case "act" -> x.act(a[0], a[1], a[2]);
            case "trace" -> x.trace(a[0]);
            case "keep" -> x.keep(a[0], a[1]);
            case "row" -> x.row(a[0], a[1], a[2]);
            case "put" -> x.put(a[0], a[1], v);
            case "element" -> x.element(a[0], a[1]);
            case "shift" -> x.shift(a[0], a[1], a[2], a[3], a[4]);
            case "taken" -> x.taken(a[0], a[1]);
            default -> x.count(a[0]);
        };
    }

    private int feed(int n, int v) {
        if (n < 1 || n > 4) {
            return -1;
        }
        if (tape.length() + n > 60) {
            return -3;
        }
        for (int k = 0; k < n; k++) {
            tape.append((char) (v >>> 8 * k & 0xff));
        }
        return tape.length();
    }

    private int hut() {
        if (!runs.isEmpty()) {
            return -5;
        }
        if (huts.size() == 6) {
            return -3;
        }
        String text = tape.toString();
        tape.setLength(0);
        String letters = "[" + "abcdef".replace(String.valueOf((char) ('a' + huts.size())), "") + "]";
        String sign = "(?:[2-9]?" + letters + "|;)*";
        for (int p = 0; p < text.length(); p++) {
            if (!text.substring(0, p + 1).matches(sign + "[2-9]?")) {
                return -100 - p;
            }
        }
        if (!text.matches(sign)) {
            return -100 - text.length();
        }
        huts.add(Model.parse(text));
        orders.clear();
        return huts.size() - 1;
    }

    private int line(int hut, int line) {
        if (!in(hut, huts.size()) || line != -1 && !in(line, huts.get(hut).size())) {
            return -1;
        }
        return line == -1 ? huts.get(hut).size() : huts.get(hut).get(line).size();
    }

    private int goesTo(int hut, int line, int i) {
        boolean is = in(hut, huts.size()) && in(line, huts.get(hut).size()) && in(i, huts.get(hut).get(line).size());
        return is ? huts.get(hut).get(line).get(i) : -1;
    }

    private int way(int kind) {
        if (!in(kind, 9) || ways.size() == 10) {
            return in(kind, 9) ? -3 : -1;
        }
        ways.add(Host.way(kind, ways.size()));
        return ways.size() - 1;
    }

    private int run(int way) {
        if (!in(way, ways.size())) {
            return -1;
        }
        if (huts.isEmpty() || runs.size() == 4) {
            return huts.isEmpty() ? -5 : -3;
        }
        runs.add(new Model(huts, Host.kindOf(ways.get(way))));
        waysOfRuns.add(way);
        return runs.size() - 1;
    }

    private int step(int run, int sort, int i) {
        Model next = runs.get(run).behind(sort, i);
        if (next == null) {
            return runs.get(run).refusal;
        }
        runs.set(run, next);
        return next.done;
    }

    private int steps(int run, int shelf, int i, int n) {
        if (!in(run, runs.size()) || !in(shelf, 6) || n < 1 || n > 60) {
            return -1;
        }
        short[] row = host.shorts(shelf);
        if (row == null) {
            return host.isEmpty(shelf) ? 0 : -12;
        }
        int done = 0;
        for (long at = i; done < n && at >= 0 && at < row.length; at++) {
            int code = row[(int) at];
            if (code < 0 || code >= 500 || step(run, code / 100, code % 100) < 0) {
                break;
            }
            done++;
        }
        return done;
    }

    private int ofRun(int run, int what) {
        Model m = runs.get(run);
        long awake = m.huts.stream().filter(h -> h.awake).count();
        int[] of = {waysOfRuns.get(run), m.done, m.words.size(), m.notes.size(), m.over() ? 1 : 0, m.says ? 1 : 0,
            (int) awake, m.wordsSent, m.notesSent, m.saidAt, m.overAt};
        return of[what];
    }

    private int ofHut(int run, int h, int what) {
        if (!in(run, runs.size()) || !in(h, huts.size()) || !in(what, 11)) {
            return -2000000000;
        }
        Model m = runs.get(run);
        Model.Hut hut = m.huts.get(h);
        int[] of = {hut.awake ? 1 : 0, hut.woken, hut.lineSent, hut.units, hut.out, hut.parent, hut.inTree ? 1 : 0,
            hut.sum, hut.black ? 1 : 0, hut.sent, hut.came};
        boolean[] kept = {true, true, true, m.lantern(), m.stick(), m.stick(), m.stick(), m.stone(), m.stone(),
            m.sums(), m.sums()};
        return kept[what] ? of[what] : -2000000000;
    }

    private int onTheWay(int[] a, boolean words, int bad) {
        if (!in(a[0], runs.size()) || !in(a[2], 3)) {
            return bad;
        }
        List<int[]> those = words ? runs.get(a[0]).words : runs.get(a[0]).notes;
        return in(a[1], those.size()) ? those.get(a[1])[a[2]] : bad;
    }

    private Model.All orders(int kind) {
        return orders.computeIfAbsent(kind, k -> Model.all(huts, k, 150));
    }

    private int ofOrders(String name, int[] a) {
        boolean what = name.equals("least") || name.equals("work");
        if (!in(a[0], ways.size()) || what && !in(a[1], 2) || name.equals("least") && a[2] < -1) {
            return -1;
        }
        if (huts.isEmpty()) {
            return -5;
        }
        Model.All all = huts.size() > 4 ? null : orders(Host.kindOf(ways.get(a[0])));
        if (all == null || all.size > 150) {
            return -4;
        }
        switch (name) {
            case "states":
                return all.size;
            case "stuck":
                return all.stuck;
            case "work":
                return a[1] == 0 ? all.works : orders(0).size > 150 ? -4 : orders(0).works == all.works ? 1 : 0;
            default:
                List<Integer> path = a[1] == 0 ? all.early : all.soon;
                return path == null ? -2 : a[2] == -1 ? path.size() : in(a[2], path.size()) ? path.get(a[2]) : -1;
        }
    }

    private int act(int way, int act, int x) {
        latest = in(way, ways.size()) && in(act, 4) ? Host.act(ways.get(way), act, x) : new int[1];
        return latest[0];
    }

    private int keep(int shelf, int way) {
        if (!in(shelf, 6) || way != -1 && !in(way, ways.size())) {
            return -1;
        }
        host.keep(shelf, way == -1 ? null : ways.get(way));
        return 1;
    }

    private int count(int what) {
        int[] counts = {huts.size(), ways.size(), runs.size(), tape.length(), latest.length - 1};
        return in(what, 5) ? counts[what] : -1;
    }
}
