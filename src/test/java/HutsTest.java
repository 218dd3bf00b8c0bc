/** Promises 2 to 7: the tape, huts and their programs, ways and their kinds. */
public final class HutsTest {
    private static void feed() {
        AllHome x = new AllHome();
        Due.is("feed 0", x.feed(0, 97), -1);
        Due.is("feed 5", x.feed(5, 97), -1);
        Due.is("feed -1", x.feed(-1, 97), -1);
        Due.is("nothing came", x.count(3), 0);
        Due.is("feed 3", x.feed(3, 0x62_3b_63_62), 3);
        Due.is("count", x.count(3), 3);
        Due.is("lowest first, the highest left out: bc;", x.hut(), 0);
        Due.is("two lines", x.line(0, -1), 2);
        Due.is("b", x.goesTo(0, 0, 0), 1);
        Due.is("c", x.goesTo(0, 0, 1), 2);
        Due.is("the tape is empty", x.count(3), 0);
        Due.is("a number below 0 has bytes too", x.feed(4, -1), 4);
        Due.is("byte 255 is a fault", x.hut(), -100);
        Due.is("bytes with bit 7 do not pass for others", x.feed(1, 0x61 + 128), 1);
        Due.is("fault", x.hut(), -100);
        for (int k = 1; k <= 14; k++) {
            Due.is("feed", x.feed(4, 0x61616161), 4 * k);
        }
        Due.is("57", x.feed(1, 'a'), 57);
        Due.is("four more are too many", x.feed(4, 0x61616161), -3);
        Due.is("still 57", x.count(3), 57);
        Due.is("60", x.feed(3, 0x616161), 60);
        Due.is("full", x.feed(1, 'a'), -3);
        Due.is("a wrong n is named first", x.feed(0, 'a'), -1);
        Due.is("60 bytes are a program", x.hut(), 1);
        Due.is("60 words", x.line(1, 0), 60);
        Due.is("the last word", x.goesTo(1, 0, 59), 0);
        Due.is("none behind it", x.goesTo(1, 0, 60), -1);
    }

    private static void fault(int huts, String program, int place) {
        AllHome x = new AllHome();
        for (int h = 0; h < huts; h++) {
            x.hut();
        }
        Due.is("hut " + huts + " " + program, Due.hut(x, program), place < 0 ? huts : -100 - place);
        Due.is("huts", x.count(0), place < 0 ? huts + 1 : huts);
        Due.is("the tape is empty", x.count(3), 0);
    }

    private static void faults() {
        fault(0, "", -1);
        fault(0, ";", -1);
        fault(0, ";;;", -1);
        fault(0, "b", -1);
        fault(0, "2b9c;;3f", -1);
        fault(0, "bcdef", -1);
        fault(0, "a", 0);
        fault(0, "ba", 1);
        fault(0, "b2a", 2);
        fault(1, "b", 0);
        fault(1, "acdef;a", -1);
        fault(5, "abcde", -1);
        fault(5, "abcdef", 5);
        fault(0, "bg", 1);
        fault(0, "B", 0);
        fault(0, "b c", 1);
        fault(0, "1b", 0);
        fault(0, "0b", 0);
        fault(0, "2", 1);
        fault(0, "b;9", 3);
        fault(0, "22b", 1);
        fault(0, "2;b", 1);
        fault(0, "2b;3;", 4);
        fault(0, "b:c", 1);
        fault(0, "b`", 1);
        fault(0, "b\u0000", 1);
    }

    private static void huts() {
        AllHome x = new AllHome();
        for (int h = 0; h < 6; h++) {
            Due.is("hut", x.hut(), h);
        }
        Due.feed(x, "ab");
        Due.is("a seventh", x.hut(), -3);
        Due.is("the tape stays", x.count(3), 2);
        Due.is("six", x.count(0), 6);

        AllHome y = Due.withHuts("b");
        y.way(0);
        y.run(0);
        Due.feed(y, "a2");
        Due.is("a run began", y.hut(), -5);
        Due.is("the tape stays", y.count(3), 2);
        Due.is("feed goes on", y.feed(1, 'c'), 3);
        Due.is("one hut", y.count(0), 1);

        AllHome z = new AllHome();
        for (int h = 0; h < 6; h++) {
            z.hut();
        }
        z.way(0);
        z.run(0);
        Due.is("of both the one named first", z.hut(), -5);
    }

    private static void lines() {
        AllHome x = Due.withHuts("b3c;;2b;", "9a9c9d9e9f9a9c9d9e9f9a9c9d9e9f9a9c9d9e9f9a9c9d9e9f9a9c9d9e9f",
            ";;;;;;;;;;;;;;;;;;;;;;;;;;;;;;;;;;;;;;;;;;;;;;;;;;;;;;;;;;;;");
        Due.is("lines", x.line(0, -1), 4);
        int[] words = {4, 0, 2, 0};
        for (int k = 0; k < 4; k++) {
            Due.is("line " + k, x.line(0, k), words[k]);
        }
        Due.is("line behind the last", x.line(0, 4), -1);
        Due.is("line -2", x.line(0, -2), -1);
        Due.is("hut -1", x.line(-1, -1), -1);
        Due.is("hut 3", x.line(3, -1), -1);
        int[] goals = {1, 2, 2, 2};
        for (int i = 0; i < 4; i++) {
            Due.is("word " + i, x.goesTo(0, 0, i), goals[i]);
        }
        Due.is("word 4", x.goesTo(0, 0, 4), -1);
        Due.is("word -1", x.goesTo(0, 0, -1), -1);
        Due.is("an empty line", x.goesTo(0, 1, 0), -1);
        Due.is("line 2", x.goesTo(0, 2, 1), 1);
        Due.is("line 4", x.goesTo(0, 4, 0), -1);
        Due.is("line -1", x.goesTo(0, -1, 0), -1);
        Due.is("hut 3", x.goesTo(3, 0, 0), -1);
        Due.is("hut -1", x.goesTo(-1, 0, 0), -1);
        Due.is("the most words", x.line(1, 0), 270);
        Due.is("the last of them", x.goesTo(1, 0, 269), 5);
        Due.is("the first of the last nine", x.goesTo(1, 0, 261), 5);
        Due.is("and one ahead", x.goesTo(1, 0, 260), 4);
        Due.is("the most lines", x.line(2, -1), 61);
        Due.is("the last of them", x.line(2, 60), 0);
        Due.is("none behind", x.line(2, 61), -1);
        Due.is("a fault leaves no line behind", Due.hut(x, "a;b;d"), -104);
        Due.is("hut 3", Due.hut(x, "a"), 3);
        Due.is("one line", x.line(3, -1), 1);
        Due.is("one word", x.line(3, 0), 1);
    }

    private static void ways() {
        AllHome x = new AllHome();
        Due.is("kind -1", x.way(-1), -1);
        Due.is("kind 9", x.way(9), -1);
        Due.is("no way yet", x.count(1), 0);
        for (int k = 0; k < 9; k++) {
            Due.is("way", x.way(8 - k), k);
        }
        Due.is("two of a kind", x.way(3), 9);
        Due.is("an eleventh", x.way(0), -3);
        Due.is("a wrong kind is named first", x.way(9), -1);
        Due.is("ten", x.count(1), 10);
        for (int k = 0; k < 9; k++) {
            Due.is("kindOf " + k, x.kindOf(k), 8 - k);
        }
        Due.is("kindOf 9", x.kindOf(9), 3);
        Due.is("kindOf 10", x.kindOf(10), -1);
        Due.is("kindOf -1", x.kindOf(-1), -1);
    }

    public static void main(String[] args) {
        feed();
        faults();
        huts();
        lines();
        ways();
        Due.end("HutsTest");
    }
}
