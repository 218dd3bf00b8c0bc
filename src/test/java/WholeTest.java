/** Made-up runs of calls of all names, with odd numbers among them: the class against its second writing. */
public final class WholeTest {
    private static final int MOST_CALLS = 512;
    private static final int[] ODD = {Integer.MIN_VALUE, Integer.MAX_VALUE, -1, -2, -3, -100, 61, 150, 512, 32768,
        Integer.MIN_VALUE + 1, Integer.MAX_VALUE - 59};
    /** How often each call comes, in the order of Whole.NAMES. */
    private static final int[] OFTEN = {6, 3, 2, 2, 3, 2, 3, 120, 8, 20, 24, 8, 8, 2, 1, 3, 1, 2, 4, 4, 3, 4, 12, 8, 5, 4, 3};

    private static long seed = 20261119L;

    private static int pick(int below) {
        seed = seed * 6364136223846793005L + 1442695040888963407L;
        return (int) ((seed >>> 33) % below);
    }

    /** 0 .. n - 1 mostly; at times n or one more. */
    private static int about(int n) {
        return pick(Math.max(1, n) + (pick(8) == 0 ? 2 : 0));
    }

    private static int number(Whole w, String name, int place, int[] a) {
        if (pick(24) == 0) {
            return ODD[pick(ODD.length)];
        }
        int huts = w.huts.size();
        int ways = w.ways.size();
        int runs = w.runs.size();
        switch (name) {
            case "feed": return place == 0 ? 1 + about(4) : bytes();
            case "line": return place == 0 ? about(huts) : pick(5) - 1;
            case "goesTo": return place == 0 ? about(huts) : pick(4);
            case "way": return about(9);
            case "kindOf": case "run": case "states": case "stuck": return about(ways);
            case "step": return place == 0 ? about(runs) : place == 1 ? sort() : ofStep(w, a);
            case "steps": return place == 0 ? about(runs) : place == 1 ? pick(6) : place == 2 ? pick(9) : about(61);
            case "act": return place == 0 ? about(ways) : place == 1 ? about(4) : pick(200) - 100;
            case "trace": return pick(12);
            case "row": return place == 0 ? about(6) : place == 1 ? (pick(3) == 0 ? 1 : about(5)) : about(60);
            case "put": case "element": return place == 0 ? about(6) : pick(20);
            case "shift": return place == 0 || place == 2 ? about(6) : pick(18);
            case "ofRun": return place == 0 ? about(runs) : about(11);
            case "ofHut": return place == 0 ? about(runs) : place == 1 ? about(huts) : about(11);
            case "word": case "note": return place == 0 ? about(runs) : place == 1 ? pick(4) : about(3);
            case "least": return place == 0 ? about(ways) : place == 1 ? about(2) : pick(12) - 1;
            case "work": return place == 0 ? about(ways) : about(2);
            case "keep": return place == 0 ? about(6) : about(ways) - pick(2);
            case "taken": return place == 0 ? about(6) : about(9);
            case "total": return about(runs);
            default: return about(5);
        }
    }

    /** A number that the step may have, mostly. */
    private static int ofStep(Whole w, int[] a) {
        if (a[0] < 0 || a[0] >= w.runs.size()) {
            return pick(3);
        }
        Model m = w.runs.get(a[0]);
        if (a[1] != 0) {
            return about(a[1] == 2 ? m.notes.size() : a[1] == 3 ? 1 : m.words.size());
        }
        int h = about(w.huts.size());
        for (int k = 0; k < 4 && h < w.huts.size() && !m.huts.get(h).awake; k++) {
            h = about(w.huts.size());
        }
        return h;
    }

    private static int sort() {
        int[] sorts = {0, 0, 0, 0, 0, 0, 0, 0, 1, 1, 1, 1, 2, 2, 2, 3, 3, 4};
        return pick(40) == 0 ? 5 : sorts[pick(sorts.length)];
    }

    private static int bytes() {
        String signs = "abcdefabcab;;23;9";
        int v = 0;
        for (int k = 0; k < 4; k++) {
            v = v << 8 | (pick(60) == 0 ? pick(256) : signs.charAt(pick(signs.length())));
        }
        return v;
    }

    private static long element() {
        long[] odd = {Long.MIN_VALUE, Long.MAX_VALUE, -1, 255, 32768, 1L << 31, 1L << 32, 0};
        return pick(8) == 0 ? odd[pick(odd.length)] : 100L * sort() + pick(4);
    }

    private static int call(int sum) {
        int at = pick(sum);
        int call = 0;
        while (at >= OFTEN[call]) {
            at -= OFTEN[call];
            call++;
        }
        return call;
    }

    private static void ask(AllHome x, Whole whole, String where, int call, int[] a, long v) {
        String text = where + " " + Whole.NAMES[call] + java.util.Arrays.toString(a) + " " + v;
        Due.is(text, Whole.asked(x, call, a, v), whole.answer(call, a, v));
    }

    /** Programs, ways and runs that most calls need; the rest is made up. */
    private static int begin(AllHome x, Whole whole, String where) {
        int huts = pick(6);
        int calls = 0;
        for (int h = 0; h < huts; h++) {
            StringBuilder program = new StringBuilder();
            for (int k = pick(3) == 0 ? pick(7) : 6 + pick(20); k > 0; k--) {
                int letter = pick(3) == 0 ? h : pick(Math.min(6, huts + 1));
                if (letter != h && pick(5) == 0) {
                    program.append("259".charAt(pick(3)));
                }
                program.append(letter == h ? ';' : (char) ('a' + letter));
            }
            for (char c : program.toString().toCharArray()) {
                ask(x, whole, where, 0, new int[] {1, c}, 0);
                calls++;
            }
            ask(x, whole, where, 1, new int[0], 0);
            calls++;
        }
        for (int k = pick(6); k > 0; k--) {
            ask(x, whole, where, 4, new int[] {pick(9)}, 0);
            calls++;
        }
        // Some go on without a run, for huts and all orders.
        for (int k = pick(3) == 0 ? 0 : 1 + pick(4); k > 0; k--) {
            ask(x, whole, where, 6, new int[] {pick(Math.max(1, whole.ways.size()))}, 0);
            calls++;
        }
        return calls;
    }

    private static void one(int number, int sum) {
        AllHome x = new AllHome();
        Whole whole = new Whole();
        String where = "object " + number;
        int calls = begin(x, whole, where);
        while (calls < MOST_CALLS) {
            int call = call(sum);
            int[] a = new int[Whole.NUMBERS[call]];
            for (int k = 0; k < a.length; k++) {
                a[k] = number(whole, Whole.NAMES[call], k, a);
            }
            ask(x, whole, where + " call " + calls, call, a, element());
            calls++;
        }
    }

    public static void main(String[] args) {
        int sum = 0;
        for (int often : OFTEN) {
            sum += often;
        }
        int objects = args.length > 0 ? Integer.parseInt(args[0]) : 1500;
        for (int k = 0; k < objects; k++) {
            one(k, sum);
        }
        Due.end("WholeTest");
    }
}
