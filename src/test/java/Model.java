import java.util.ArrayList;
import java.util.HashMap;
import java.util.HashSet;
import java.util.LinkedHashMap;
import java.util.List;
import java.util.Map;
import java.util.Set;

/**
 * The document's runs and all orders once more, written apart from the class, with Java's lists and texts:
 * what ModelTest compares the class with.
 */
final class Model {
    static final int STATE = -5, FULL = -3, NOT = -2;

    final List<List<List<Integer>>> programs;
    final int kind;
    final List<Hut> huts = new ArrayList<>();
    final List<int[]> words = new ArrayList<>();
    final List<int[]> notes = new ArrayList<>();
    int total = 64;
    int[] ahead = null;
    boolean says = false;
    int done = 0, wordsSent = 0, notesSent = 0, saidAt = NOT, overAt = NOT;

    static final class Hut {
        boolean awake, inTree, black;
        int woken, lineSent, units, out, parent = -1, sum, sent, came;

        Hut copy() {
            Hut h = new Hut();
            h.awake = awake;
            h.inTree = inTree;
            h.black = black;
            h.woken = woken;
            h.lineSent = lineSent;
            h.units = units;
            h.out = out;
            h.parent = parent;
            h.sum = sum;
            h.sent = sent;
            h.came = came;
            return h;
        }
    }

    /** A text program as lines of goals. */
    static List<List<Integer>> parse(String program) {
        List<List<Integer>> lines = new ArrayList<>();
        for (String part : program.split(";", -1)) {
            List<Integer> line = new ArrayList<>();
            int times = 1;
            for (char c : part.toCharArray()) {
                if (Character.isDigit(c)) {
                    times = c - '0';
                } else {
                    for (int k = 0; k < times; k++) {
                        line.add(c - 'a');
                    }
                    times = 1;
                }
            }
            lines.add(line);
        }
        return lines;
    }

    Model(List<List<List<Integer>>> programs, int kind) {
        this.programs = programs;
        this.kind = kind;
        for (int h = 0; h < programs.size(); h++) {
            huts.add(new Hut());
        }
        huts.get(0).awake = true;
        huts.get(0).woken = 1;
        huts.get(0).units = 64;
        huts.get(0).inTree = true;
    }

    Model copy() {
        Model m = new Model(programs, kind);
        m.huts.clear();
        for (Hut h : huts) {
            m.huts.add(h.copy());
        }
        for (int[] w : words) {
            m.words.add(w.clone());
        }
        for (int[] n : notes) {
            m.notes.add(n.clone());
        }
        m.total = total;
        m.ahead = ahead == null ? null : ahead.clone();
        m.says = says;
        m.done = done;
        m.wordsSent = wordsSent;
        m.notesSent = notesSent;
        m.saidAt = saidAt;
        m.overAt = overAt;
        return m;
    }

    boolean lantern() {
        return kind == 1;
    }

    boolean stick() {
        return kind == 2 || kind == 6;
    }

    boolean stone() {
        return kind == 4 || kind == 7;
    }

    boolean sums() {
        return kind == 5 || kind == 8;
    }

    boolean over() {
        return words.isEmpty() && huts.stream().noneMatch(h -> h.awake);
    }

    /** The model behind the step; or null, and why in 'refusal'. */
    int refusal;

    Model behind(int sort, int i) {
        Model m = copy();
        refusal = m.change(sort, i);
        if (refusal != 0) {
            return null;
        }
        if (m.words.size() > 8 || m.notes.size() > 8) {
            refusal = FULL;
            return null;
        }
        m.done++;
        if (m.says && m.saidAt == NOT) {
            m.saidAt = m.done;
        }
        m.overAt = !m.over() ? NOT : m.overAt == NOT ? m.done : m.overAt;
        return m;
    }

    private void note(int to, int first, int second) {
        notes.add(new int[] {to, first, second});
        notesSent++;
    }

    private int change(int sort, int i) {
        int bad = sort == 0 ? hutGoesOn(i) : sort == 1 ? wordComes(i) : sort == 2 ? noteComes(i)
            : sort == 3 ? asks(i) : lost(i);
        if (bad != 0) {
            return bad;
        }
        if (stick()) {
            for (int h = 1; h < huts.size(); h++) {
                Hut hut = huts.get(h);
                if (hut.inTree && !hut.awake && (hut.out == 0 || kind == 6)) {
                    hut.inTree = false;
                    note(hut.parent, 0, 0);
                    hut.parent = -1;
                }
            }
        }
        Hut root = huts.get(0);
        if (!root.awake && (lantern() && root.units == total || stick() && root.out <= 0)) {
            says = true;
        }
        return 0;
    }

    private int hutGoesOn(int h) {
        if (h < 0 || h >= huts.size() || !huts.get(h).awake) {
            return STATE;
        }
        Hut hut = huts.get(h);
        List<List<Integer>> lines = programs.get(h);
        List<Integer> line = hut.woken <= lines.size() ? lines.get(hut.woken - 1) : List.of();
        if (hut.lineSent == line.size()) {
            hut.awake = false;
            if (lantern() && h > 0 && hut.units > 0) {
                note(0, hut.units, 0);
                hut.units = 0;
            }
            return 0;
        }
        int goal = line.get(hut.lineSent);
        hut.lineSent++;
        hut.out++;
        hut.sum++;
        hut.sent++;
        wordsSent++;
        int part = 0;
        if (lantern()) {
            if (hut.units < 2) {
                hut.units += 64;
                total += 64;
            }
            part = hut.units / 2;
            hut.units -= part;
        }
        if (goal < huts.size()) {
            words.add(new int[] {h, goal, part});
        }
        return 0;
    }

    private int wordComes(int i) {
        if (i < 0 || i >= words.size()) {
            return STATE;
        }
        int[] word = words.remove(i);
        Hut hut = huts.get(word[1]);
        if (!hut.awake) {
            hut.awake = true;
            hut.woken++;
            hut.lineSent = 0;
        }
        hut.units += word[2];
        hut.sum--;
        hut.came++;
        hut.black = kind != 7;
        if (stick()) {
            if (hut.inTree) {
                note(word[0], 0, 0);
            } else {
                hut.inTree = true;
                hut.parent = word[0];
            }
        }
        return 0;
    }

    private int lost(int i) {
        if (i < 0 || i >= words.size()) {
            return STATE;
        }
        words.remove(i);
        return 0;
    }

    private int noteComes(int i) {
        if (i < 0 || i >= notes.size() || stone() && huts.get(notes.get(i)[0]).awake) {
            return STATE;
        }
        int[] n = notes.remove(i);
        Hut hut = huts.get(n[0]);
        if (lantern()) {
            hut.units += n[1];
        } else if (stick()) {
            hut.out--;
        } else if (stone() && n[0] > 0) {
            note(n[0] - 1, n[1] + hut.sum, n[2] == 1 || hut.black ? 1 : 0);
            hut.black = false;
        } else if (stone()) {
            says |= n[2] == 0 && !hut.black && n[1] + hut.sum == 0;
        } else if (sums() && n[0] > 0) {
            note((n[0] + 1) % huts.size(), n[1] + hut.sent, n[2] + hut.came);
        } else if (sums()) {
            boolean all = n[1] == n[2] && (kind == 8 || ahead != null && ahead[0] == n[1] && ahead[1] == n[2]);
            if (all) {
                says = true;
            } else {
                ahead = new int[] {n[1], n[2]};
            }
        }
        return 0;
    }

    private int asks(int i) {
        Hut root = huts.get(0);
        if (i != 0 || !(kind == 3 || stone() || sums()) || !notes.isEmpty() || root.awake) {
            return STATE;
        }
        if (stone()) {
            root.black = false;
            note(huts.size() - 1, 0, 0);
        }
        if (sums()) {
            note(1 % huts.size(), root.sent, root.came);
        }
        return 0;
    }

    /** What huts and words are. */
    String work() {
        StringBuilder text = new StringBuilder();
        for (Hut h : huts) {
            text.append(h.awake).append(h.woken).append(',').append(h.lineSent).append('|');
        }
        for (int[] w : words) {
            text.append(w[0]).append('>').append(w[1]).append(' ');
        }
        return text.toString();
    }

    /** All that makes states alike. */
    String key() {
        StringBuilder text = new StringBuilder(work()).append(says);
        if (lantern()) {
            text.append(total);
            for (int[] w : words) {
                text.append(',').append(w[2]);
            }
        }
        for (Hut h : huts) {
            text.append('/');
            if (lantern()) {
                text.append(h.units);
            } else if (stick()) {
                text.append(h.out).append(' ').append(h.parent).append(' ').append(h.inTree);
            } else if (stone()) {
                text.append(h.sum).append(' ').append(h.black);
            } else if (sums()) {
                text.append(h.sent).append(' ').append(h.came);
            }
        }
        for (int[] n : notes) {
            text.append('#').append(n[0]).append(' ').append(n[1]).append(' ').append(n[2]);
        }
        if (sums() && ahead != null) {
            text.append('^').append(ahead[0]).append(' ').append(ahead[1]);
        }
        return text.toString();
    }

    /** All orders, up to a limit of states; 'size' is limit + 1 if there are more. */
    static final class All {
        int size;
        int stuck;
        int works;
        List<Integer> early;
        List<Integer> soon;
    }

    static All all(List<List<List<Integer>>> programs, int kind, int limit) {
        All all = new All();
        Map<String, Integer> numbers = new LinkedHashMap<>();
        List<Model> states = new ArrayList<>();
        List<List<Integer>> paths = new ArrayList<>();
        Map<Integer, Set<Integer>> backs = new HashMap<>();
        Model first = new Model(programs, kind);
        numbers.put(first.key(), 0);
        states.add(first);
        paths.add(List.of());
        for (int s = 0; s < states.size() && states.size() <= limit; s++) {
            Model m = states.get(s);
            if (m.says) {
                continue;
            }
            for (int sort = 0; sort < 4; sort++) {
                for (int i = 0; i < 9; i++) {
                    Model next = m.behind(sort, i);
                    if (next == null) {
                        continue;
                    }
                    Integer t = numbers.get(next.key());
                    if (t == null) {
                        t = states.size();
                        numbers.put(next.key(), t);
                        states.add(next);
                        List<Integer> path = new ArrayList<>(paths.get(s));
                        path.add(100 * sort + i);
                        paths.add(path);
                    }
                    backs.computeIfAbsent(t, k -> new HashSet<>()).add(s);
                }
            }
        }
        all.size = Math.min(states.size(), limit + 1);
        Set<String> works = new HashSet<>();
        Set<Integer> reach = new HashSet<>();
        List<Integer> open = new ArrayList<>();
        for (int s = 0; s < states.size(); s++) {
            Model m = states.get(s);
            works.add(m.work());
            if (m.says) {
                reach.add(s);
                open.add(s);
                if (m.over() && all.soon == null) {
                    all.soon = paths.get(s);
                }
                if (!m.over() && all.early == null) {
                    all.early = paths.get(s);
                }
            }
        }
        while (!open.isEmpty()) {
            int t = open.remove(open.size() - 1);
            for (int s : backs.getOrDefault(t, Set.of())) {
                if (reach.add(s)) {
                    open.add(s);
                }
            }
        }
        all.works = works.size();
        all.stuck = states.size() - reach.size();
        return all;
    }
}
