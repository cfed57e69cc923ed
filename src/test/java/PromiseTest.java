/** Each promise of the document: ordinary inputs, the edges it names, and wrong inputs. */
public final class PromiseTest {
    private static final int U = TwinRuns.UNKNOWN, O = TwinRuns.OUTSIDE, S = TwinRuns.STATE, F = TwinRuns.FULL;
    private static final int NO = TwinRuns.NO, NONE = TwinRuns.NONE;
    private static final int SET = 0, COPY = 1, SUM = 2, LESS = 3, REST = 4, LEAP = 5, SHOW = 6, END = 7;

    private static int checks = 0;
    private static int wrong = 0;
    private static String at = "";

    private static void due(String what, int got, int want) {
        checks++;
        if (got != want) {
            wrong++;
            System.out.println(at + ": " + what + " answered " + got + ", due is " + want);
        }
    }

    /** A START or MEMORY. */
    private static int mem(int a, int b, int c, int d) {
        return 64 * a + 16 * b + 4 * c + d;
    }

    /** LINES of four numbers each. */
    private static void lines(TwinRuns x, int program, int... n) {
        for (int i = 0; i + 3 < n.length; i += 4) {
            if (x.line(program, n[i], n[i + 1], n[i + 2], n[i + 3]) < 0) {
                due("a line of the test's own", -1, 0);
            }
        }
    }

    private static void signs(TwinRuns x, String text) {
        for (int i = 0; i < text.length(); i++) {
            x.say(text.charAt(i));
        }
    }

    private static int saying(TwinRuns x, String text) {
        signs(x, text);
        return x.saying();
    }

    private static int faultOf(String text) {
        TwinRuns x = new TwinRuns();
        signs(x, text);
        return x.fault();
    }

    private static void promise1NewObject() {
        TwinRuns x = new TwinRuns();
        for (int p = 0; p < 4; p++) {
            due("lines of " + p, x.told(10 + p), 0);
            due("silent ones of " + p, x.told(20 + p), 0);
            due("a run of nothing", x.run(p, 77, 1), 77);
            due("its steps", x.run(p, 77, 2), 0);
        }
        due("sayings", x.told(0), 0);
        due("signs", x.told(1), 0);
        for (int i = 0; i < 12; i++) {
            for (int j = 0; j < 12; j++) {
                due("wait", x.wait(i, j, 2), 0);
            }
        }
        for (int i = 0; i < 13; i++) {
            for (int j = 0; j < 13; j++) {
                due("told shape", x.tell(i, j, 0), 4095);
            }
        }
    }

    private static void promise2Line() {
        TwinRuns x = new TwinRuns();
        due("no such program", x.line(-1, SET, 0, 0, 0), U);
        due("no such program", x.line(4, SET, 0, 0, 0), U);
        due("UNKNOWN ahead of OUTSIDE", x.line(4, 9, 9, 9, 9), U);
        int[][] outside = {{-1, 0, 0, 0}, {8, 0, 0, 0}, {SET, 4, 0, 0}, {SET, -1, 0, 0}, {SET, 0, 4, 0},
            {SET, 0, -1, 0}, {SET, 0, 0, 1}, {COPY, 0, 4, 0}, {COPY, 0, 0, 1}, {SUM, 0, 0, 4}, {SUM, 0, 4, 0},
            {LESS, 4, 0, 0}, {LESS, 0, 0, -1}, {REST, 0, 0, 4}, {LEAP, 0, 13, 0}, {LEAP, 0, -1, 0}, {LEAP, 4, 0, 0},
            {LEAP, 0, 0, 1}, {SHOW, 4, 0, 0}, {SHOW, 0, 1, 0}, {SHOW, 0, 0, 1}, {END, 1, 0, 0}, {END, 0, 1, 0},
            {END, 0, 0, 1}};
        for (int[] n : outside) {
            due("line outside", x.line(1, n[0], n[1], n[2], n[3]), O);
        }
        due("they change nothing", x.told(11), 0);
        int[][] fine = {{SET, 3, 3, 0}, {COPY, 3, 3, 0}, {SUM, 3, 3, 3}, {LESS, 3, 3, 3}, {REST, 3, 3, 3},
            {LEAP, 3, 12, 0}, {LEAP, 0, 0, 0}, {SHOW, 3, 0, 0}, {END, 0, 0, 0}, {SET, 0, 0, 0}, {SET, 0, 0, 0},
            {SET, 0, 0, 0}};
        for (int i = 0; i < 12; i++) {
            due("line", x.line(1, fine[i][0], fine[i][1], fine[i][2], fine[i][3]), i);
        }
        due("the thirteenth", x.line(1, SET, 0, 0, 0), F);
        due("OUTSIDE ahead of FULL", x.line(1, SET, 0, 0, 1), O);
        due("it stays at 12", x.told(11), 12);
        due("another has room", x.line(0, SET, 0, 0, 0), 0);
    }

    private static void promise3Change() {
        TwinRuns x = new TwinRuns();
        due("no line yet", x.change(0, 0, SET, 0, 0, 0), U);
        lines(x, 0, SET, 0, 1, 0, SHOW, 0, 0, 0);
        due("no such program", x.change(4, 0, SET, 0, 0, 0), U);
        due("no such line", x.change(0, 2, SET, 0, 0, 0), U);
        due("no such line", x.change(0, -1, SET, 0, 0, 0), U);
        due("UNKNOWN ahead of OUTSIDE", x.change(0, 2, 9, 0, 0, 0), U);
        due("outside", x.change(0, 1, 8, 0, 0, 0), O);
        due("outside", x.change(0, 1, SHOW, 0, 1, 0), O);
        due("as it was", x.run(0, 0, 10), 1);
        due("it was SHOW", x.change(0, 1, SET, 1, 2, 0), SHOW);
        due("it was SET", x.change(0, 0, REST, 0, 1, 2), SET);
        due("now refused", x.run(0, 0, 0), 1);
        due("it was REST", x.change(0, 0, END, 0, 0, 0), REST);
        due("now ended", x.run(0, 5, 2), 1);
        x.silent(0, 2);
        due("it was SET", x.change(0, 1, SHOW, 0, 0, 0), SET);
        due("SILENT stays", x.told(20), 2);
    }

    private static void promise4Clear() {
        TwinRuns x = new TwinRuns();
        lines(x, 2, SHOW, 0, 0, 0, SHOW, 1, 0, 0, END, 0, 0, 0);
        lines(x, 3, SHOW, 0, 0, 0);
        x.silent(2, 3);
        due("no such program", x.clear(4), U);
        due("no such program", x.clear(-1), U);
        due("there were 3", x.clear(2), 3);
        due("none", x.told(12), 0);
        due("none is silent", x.told(22), 0);
        due("the other stays", x.told(13), 1);
        due("there were none", x.clear(2), 0);
        due("a new line 0", x.line(2, SHOW, 0, 0, 0), 0);
        due("it shows", x.run(2, 0, 3), 1);
    }

    private static void promise5Silent() {
        TwinRuns x = new TwinRuns();
        lines(x, 0, SHOW, 0, 0, 0, SHOW, 1, 0, 0, SHOW, 2, 0, 0, SET, 3, 1, 0);
        due("no such program", x.silent(4, 0), U);
        due("UNKNOWN ahead of OUTSIDE", x.silent(-1, -1), U);
        due("outside", x.silent(0, 4096), O);
        due("outside", x.silent(0, -1), O);
        due("none were", x.silent(0, 10), 0);
        due("shown", x.run(0, mem(1, 2, 3, 0), 3), 2);
        due("first", x.run(0, mem(1, 2, 3, 0), 10), 1);
        due("second", x.run(0, mem(1, 2, 3, 0), 11), 3);
        due("steps all the same", x.run(0, mem(1, 2, 3, 0), 2), 4);
        due("another act is made", x.run(0, mem(1, 2, 3, 0), 1), mem(1, 2, 3, 1));
        due("they were", x.silent(0, 4095), 10);
        due("shown", x.run(0, 0, 3), 0);
        due("they were", x.silent(0, 0), 4095);
        due("shown", x.run(0, 0, 3), 3);
        due("of another program", x.told(21), 0);
    }

    private static void promise6RunActs() {
        TwinRuns x = new TwinRuns();
        lines(x, 0, SET, 0, 3, 0, COPY, 1, 0, 0);
        due("SET, COPY", x.run(0, 5, 1), mem(3, 3, 1, 1));
        lines(x, 1, SUM, 2, 0, 1, LESS, 3, 0, 1);
        due("SUM, LESS", x.run(1, mem(3, 2, 0, 0), 1), mem(3, 2, 1, 1));
        due("LESS below 0", x.run(1, mem(1, 3, 0, 0), 1), mem(1, 3, 0, 2));
        lines(x, 2, REST, 0, 1, 2, SHOW, 0, 0, 0);
        due("REST", x.run(2, mem(0, 3, 2, 0), 1), mem(1, 3, 2, 0));
        due("REST by 3", x.run(2, mem(0, 2, 3, 0), 1), mem(2, 2, 3, 0));
        due("REST by 0", x.run(2, mem(2, 2, 0, 0), 0), 1);
        due("it changes nothing", x.run(2, mem(2, 2, 0, 0), 1), mem(2, 2, 0, 0));
        due("it is a step", x.run(2, mem(2, 2, 0, 0), 2), 1);
        due("nothing behind it", x.run(2, mem(2, 2, 0, 0), 3), 0);
        lines(x, 3, LEAP, 0, 2, 0, SHOW, 1, 0, 0, LEAP, 3, 12, 0, SHOW, 2, 0, 0, END, 0, 0, 0);
        due("no leap", x.run(3, mem(0, 1, 2, 0), 3), 2);
        due("one leap", x.run(3, mem(1, 1, 2, 0), 3), 1);
        due("which", x.run(3, mem(1, 1, 2, 0), 10), 2);
        due("a leap behind all", x.run(3, mem(1, 1, 2, 1), 3), 0);
        due("END is a step", x.run(3, mem(0, 1, 2, 0), 2), 5);
        due("behind the last", x.run(3, mem(1, 1, 2, 1), 2), 2);
        due("both end by 0", x.run(3, mem(1, 1, 2, 1), 0), 0);
    }

    private static void promise6RunEdges() {
        TwinRuns x = new TwinRuns();
        lines(x, 0, SHOW, 0, 0, 0, SUM, 0, 0, 1, LEAP, 3, 0, 0);
        int start = mem(0, 1, 0, 1);
        due("spent", x.run(0, start, 0), 2);
        due("24 steps", x.run(0, start, 2), 24);
        due("8 shown", x.run(0, start, 3), 8);
        for (int i = 0; i < 8; i++) {
            due("shown", x.run(0, start, 10 + i), i % 4);
        }
        due("no ninth", x.run(0, start, 18), NONE);
        due("no 24th", x.run(0, start, 33), NONE);
        for (int what : new int[] {-1, 4, 9, 34, Integer.MAX_VALUE, Integer.MIN_VALUE}) {
            due("what", x.run(0, 0, what), O);
        }
        due("start", x.run(0, 256, 0), O);
        due("start", x.run(0, -1, 0), O);
        due("program", x.run(4, -1, 0), U);
        due("program", x.run(-1, 0, 0), U);
        for (int i = 0; i < 12; i++) {
            x.line(1, SHOW, i % 4, 0, 0);
        }
        due("12 shown", x.run(1, mem(0, 1, 2, 3), 3), 12);
        due("the last", x.run(1, mem(0, 1, 2, 3), 21), 3);
        due("ended by 0", x.run(1, mem(0, 1, 2, 3), 0), 0);
    }

    private static void promise6RunRounds() {
        TwinRuns x = new TwinRuns();
        lines(x, 0, LESS, 0, 0, 1, LEAP, 0, 0, 0);
        due("three rounds of two", x.run(0, mem(3, 1, 0, 0), 2), 6);
        due("spent", x.run(0, mem(3, 0, 0, 0), 0), 2);
        lines(x, 1, LEAP, 0, 2, 0, END, 0, 0, 0, LESS, 0, 0, 1, LEAP, 2, 0, 0);
        due("three rounds of three, LEAP and END", x.run(1, mem(3, 1, 1, 0), 2), 11);
        due("one round", x.run(1, mem(3, 1, 0, 0), 2), 3);
        // twelve LINES, so each round is twelve STEPS; d goes down by c
        for (int i = 0; i < 10; i++) {
            x.line(2, COPY, 0, 0, 0);
        }
        lines(x, 2, LESS, 3, 3, 2, LEAP, 3, 0, 0);
        due("one round", x.run(2, mem(0, 0, 1, 1), 2), 12);
        due("two rounds: the 24th leads behind the last", x.run(2, mem(0, 0, 1, 2), 0), 0);
        due("24 steps", x.run(2, mem(0, 0, 1, 2), 2), 24);
        due("a third one is not begun", x.run(2, mem(0, 0, 1, 3), 0), 2);
        due("24 steps", x.run(2, mem(0, 0, 1, 3), 2), 24);
        due("what it has then", x.run(2, mem(0, 0, 1, 3), 1), mem(0, 0, 1, 1));
    }

    private static void promise6RunLastStep() {
        TwinRuns x = new TwinRuns();
        // with d 3: LINES 0 to 6 and 8 are a round of eight STEPS, twice; then 0 to 6, and LINE 7 is the 24th
        lines(x, 0, LESS, 3, 3, 2, COPY, 0, 0, 0, COPY, 0, 0, 0, COPY, 0, 0, 0, COPY, 0, 0, 0, COPY, 0, 0, 0,
            LEAP, 3, 8, 0, END, 0, 0, 0, LEAP, 3, 0, 0);
        int start = mem(0, 0, 1, 3);
        due("END as the 24th", x.run(0, start, 0), 0);
        due("24", x.run(0, start, 2), 24);
        x.change(0, 7, REST, 0, 0, 1);
        due("REFUSED as the 24th", x.run(0, start, 0), 1);
        due("24", x.run(0, start, 2), 24);
        x.change(0, 7, COPY, 0, 0, 0);
        due("at LINE 8 behind 24", x.run(0, start, 0), 2);
        x.change(0, 7, LEAP, 2, 12, 0);
        due("behind the last LINE by the 24th", x.run(0, start, 0), 0);
        due("24", x.run(0, start, 2), 24);
        x.change(0, 7, SHOW, 2, 0, 0);
        due("shown by the 24th", x.run(0, start, 3), 1);
        due("it", x.run(0, start, 10), 1);
    }

    private static void promise7Say() {
        TwinRuns x = new TwinRuns();
        for (int sign : new int[] {32, 127, 0, -1, 256, Integer.MAX_VALUE, Integer.MIN_VALUE}) {
            due("outside", x.say(sign), O);
        }
        due("none", x.told(1), 0);
        due("33", x.say(33), 1);
        due("126", x.say(126), 2);
        for (int i = 3; i <= 40; i++) {
            due("one more", x.say('a'), i);
        }
        due("full", x.say('a'), F);
        due("OUTSIDE ahead of FULL", x.say(32), O);
        due("40", x.told(1), 40);
    }

    private static void promise8Wipe() {
        TwinRuns x = new TwinRuns();
        due("none", x.wipe(), 0);
        signs(x, "a=a:o");
        due("five", x.wipe(), 5);
        due("none", x.wipe(), 0);
        due("none", x.told(1), 0);
        due("from the first on", x.say('b'), 1);
        due("a fault", x.fault(), 1);
    }

    private static void promise9Fault() {
        String[] fine = {"a=a:o", "a=b:e", "d#d:t", "a<b:c>d", "a>b&c=c:e&o&t", "a=a:a=a&e", "a=a:e&a=a",
            "a=a:o&o", "a=a&a=a&a=a&a=a&a=a&a=a&a=a&a=a&a=a:o"};
        for (String text : fine) {
            due(text, faultOf(text), NONE);
        }
        String[] wrong = {"e", "o:", "t&a=a:e", ":e", "&", "=a", "x", "A"};
        for (String text : wrong) {
            due(text, faultOf(text), 0);
        }
        due("aa", faultOf("aa"), 1);
        due("a&", faultOf("a&a=b"), 1);
        due("a==", faultOf("a=="), 2);
        due("a=e", faultOf("a=e:o"), 2);
        due("a=bo", faultOf("a=bo"), 3);
        due("a=b==", faultOf("a=b==:e"), 3);
        due("a=b&e", faultOf("a=b&e:o"), 4);
        due("a=b::", faultOf("a=b::"), 4);
        due("a=b:&", faultOf("a=b:&"), 4);
        due("a=b:oo", faultOf("a=b:oo"), 5);
        due("a=b:o=a", faultOf("a=b:o=a"), 5);
        due("a=b:a", faultOf("a=b:a&"), 5);
        due("a=b:a=e", faultOf("a=b:a=e"), 6);
        due("a=b:o:", faultOf("a=b:o:o"), 5);
        String whole = "a=b&c#d:a<b&o";
        for (int i = 0; i < whole.length(); i++) {
            boolean ends = i == 11;
            due(whole.substring(0, i), faultOf(whole.substring(0, i)), ends ? NONE : i);
        }
    }

    private static void promise10Saying() {
        TwinRuns x = new TwinRuns();
        due("nothing", x.saying(), NO);
        signs(x, "a=a:");
        due("more must come", x.saying(), NO);
        due("the signs stay", x.told(1), 4);
        x.say('o');
        due("the first", x.saying(), 0);
        due("the signs are gone", x.told(1), 0);
        for (int i = 1; i < 6; i++) {
            due("one more", saying(x, "b=b:e"), i);
        }
        due("FULL ahead of NO", x.saying(), F);
        signs(x, "a=a:t");
        due("full", x.saying(), F);
        due("the signs stay", x.told(1), 5);
        due("six", x.told(0), 6);
    }

    private static void promise11Pair() {
        TwinRuns x = new TwinRuns();
        lines(x, 0, SUM, 0, 0, 1);
        lines(x, 1, LEAP, 3, 2, 0, SHOW, 0, 0, 0, REST, 0, 0, 2);
        due("no saying", x.pair(0, 0, 0, 0, 0, 0), U);
        int less = saying(x, "a<b:a>a");
        int e = saying(x, "d=d:e");
        int o = saying(x, "d#c:o");
        int t = saying(x, "a=a&d>d:t");
        due("0 < 1", x.pair(less, 0, mem(0, 3, 0, 0), 0, mem(3, 1, 0, 0), 0), 1);
        due("1 < 1", x.pair(less, 0, mem(1, 0, 0, 0), 0, mem(0, 1, 0, 0), 0), 0);
        due("not meant, not broken", x.pair(less, 0, mem(1, 0, 0, 0), 0, mem(0, 1, 0, 0), 1), 0);
        due("3 > 0", x.pair(less, 0, mem(0, 3, 0, 0), 0, mem(3, 1, 0, 0), 1), 0);
        due("0 > 1", x.pair(less, 0, mem(0, 0, 0, 0), 0, mem(0, 1, 0, 0), 1), 1);
        due("refused and not", x.pair(e, 1, mem(0, 0, 0, 0), 1, mem(0, 0, 1, 0), 1), 1);
        due("both refused", x.pair(e, 1, mem(0, 0, 0, 0), 1, mem(1, 0, 0, 0), 1), 0);
        due("of another program", x.pair(e, 0, mem(0, 0, 0, 0), 1, mem(1, 0, 0, 0), 1), 1);
        due("shown 2 and 2", x.pair(o, 1, mem(2, 0, 1, 0), 1, mem(2, 0, 1, 0), 1), 0);
        due("shown 2 and 1", x.pair(o, 1, mem(2, 0, 1, 0), 1, mem(1, 0, 1, 0), 1), 1);
        due("shown and nothing", x.pair(o, 1, mem(2, 0, 0, 1), 1, mem(0, 0, 0, 0), 1), 1);
        due("steps 2 and 3", x.pair(t, 1, mem(0, 0, 1, 1), 1, mem(0, 0, 1, 0), 1), 1);
        due("steps 2 and 2", x.pair(t, 1, mem(0, 0, 1, 2), 1, mem(0, 0, 1, 1), 1), 0);
        int both = saying(x, "a=a:e&b=b&t&c=c");
        due("alike", x.pair(both, 2, mem(0, 1, 2, 0), 3, mem(0, 1, 2, 3), 1), 0);
        due("b behind e", x.pair(both, 2, mem(0, 1, 2, 0), 3, mem(0, 2, 2, 3), 1), 1);
        due("c behind t", x.pair(both, 2, mem(0, 1, 2, 0), 3, mem(0, 1, 3, 3), 1), 1);
        due("t between them", x.pair(both, 2, mem(0, 1, 2, 0), 1, mem(0, 1, 2, 3), 1), 1);
        due("saying", x.pair(5, 0, 0, 0, 0, 0), U);
        due("saying", x.pair(-1, 0, 0, 0, 0, 0), U);
        due("p", x.pair(0, 4, 0, 0, 0, 0), U);
        due("q", x.pair(0, 0, 0, -1, 0, 0), U);
        due("UNKNOWN ahead of OUTSIDE", x.pair(0, 0, 256, 4, 0, 9), U);
        due("start", x.pair(0, 0, 256, 0, 0, 0), O);
        due("other", x.pair(0, 0, 0, 0, -1, 0), O);
        due("what", x.pair(0, 0, 0, 0, 0, 2), O);
        due("what", x.pair(0, 0, 0, 0, 0, -1), O);
    }

    /** Each sign with all letters and values, ahead of the : and behind it. */
    private static void promise11PairSigns() {
        for (int sign = 0; sign < 4; sign++) {
            for (int letters = 0; letters < 16; letters++) {
                int l = letters / 4;
                int r = letters % 4;
                String test = "" + "abcd".charAt(l) + "=<>#".charAt(sign) + "abcd".charAt(r);
                TwinRuns x = new TwinRuns();
                saying(x, test + ":e");
                saying(x, "a<a:" + test);
                for (int values = 0; values < 16; values++) {
                    int one = values / 4;
                    int two = values % 4;
                    int compared = Integer.compare(one, two);
                    boolean so = sign == 0 ? compared == 0 : sign == 1 ? compared < 0 : sign == 2 ? compared > 0 : compared != 0;
                    due(test, x.pair(0, 0, one << (6 - 2 * l), 1, two << (6 - 2 * r), 0), so ? 1 : 0);
                    // two programs that set what is compared behind
                    x.clear(2);
                    x.clear(3);
                    x.line(2, SET, l, one, 0);
                    x.line(3, SET, r, two, 0);
                    due("behind " + test, x.pair(1, 2, 0, 3, mem(1, 0, 0, 0), 1), so ? 0 : 1);
                }
            }
        }
    }

    private static void promise12Holds() {
        TwinRuns x = new TwinRuns();
        lines(x, 0, COPY, 0, 1, 0);
        lines(x, 1, COPY, 0, 2, 0);
        int same = saying(x, "b=b:a=a");
        int never = saying(x, "a<a&a>a:e");
        int end = saying(x, "a=a:a#a");
        due("it holds", x.holds(same, 0, 0, 0), 0);
        due("none", x.holds(same, 0, 0, 1), NONE);
        due("meant", x.holds(same, 0, 0, 2), 256 * 64);
        due("for some", x.holds(same, 0, 0, 3), NONE);
        due("c apart", x.holds(same, 1, 1, 0), 256 * 48);
        due("the first", x.holds(same, 1, 1, 1), 4);
        due("for some", x.holds(same, 1, 1, 3), NONE);
        due("b and c", x.holds(same, 0, 1, 0), 256 * 48);
        due("the first", x.holds(same, 0, 1, 1), 4);
        due("none meant", x.holds(never, 0, 1, 2), 0);
        due("none broken", x.holds(never, 0, 1, 0), 0);
        due("no first", x.holds(never, 0, 1, 1), NONE);
        due("the first is lone", x.holds(never, 0, 1, 3), 0);
        due("some", x.holds(end, 0, 0, 3), NONE);
        x.clear(1);
        lines(x, 1, SET, 0, 0, 0);
        due("no start of 1 ends with another a than 0", x.holds(end, 0, 1, 3), mem(0, 0, 0, 0));
        due("changed again", x.holds(same, 0, 1, 1), mem(0, 1, 0, 0) * 256 + mem(0, 1, 0, 0));
        due("lone is past the first", x.holds(same, 0, 1, 3), mem(0, 1, 0, 0));
        int shown = saying(x, "a=a:o");
        lines(x, 2, SHOW, 1, 0, 0);
        due("shown apart", x.holds(shown, 2, 2, 0), 4 * 64 * 48);
        x.silent(2, 1);
        due("silent", x.holds(shown, 2, 2, 0), 0);
        due("saying", x.holds(4, 0, 0, 0), U);
        due("p", x.holds(0, 4, 0, 0), U);
        due("q", x.holds(0, 0, -1, 9), U);
        due("what", x.holds(0, 0, 0, 4), O);
        due("what", x.holds(0, 0, 0, -1), O);
    }

    private static void promise12HoldsLone() {
        TwinRuns x = new TwinRuns();
        // the second one ends with a as 1 or 0; the first one leaves it
        lines(x, 0, LEAP, 3, 3, 0, SET, 0, 1, 0, END, 0, 0, 0, SET, 0, 0, 0);
        int b = saying(x, "b=b:a=a");
        due("no end is like a of 2", x.holds(b, 1, 0, 3), mem(2, 0, 0, 0));
        due("broken ones are ahead of it", x.holds(b, 1, 0, 1), 0);
        due("so many", x.holds(b, 1, 0, 0), 64 * (16 + 48 + 64 + 64));
        due("the other way each has one", x.holds(b, 0, 1, 3), NONE);
        int c = saying(x, "d=d&b=b:a=a");
        due("with d alike 0 has none", x.holds(c, 1, 0, 3), 0);
        x.change(0, 1, COPY, 0, 1, 0);
        due("b of 1 is not like a of 0", x.holds(c, 1, 0, 3), mem(0, 1, 0, 0));
    }

    /** What was found once is found anew when LINES, SILENT ones or WAITS are told. */
    private static void promise12HoldsAnew() {
        TwinRuns x = new TwinRuns();
        int o = saying(x, "a=a:o");
        due("nothing is shown", x.holds(o, 0, 0, 0), 0);
        due("nothing to walk", x.walk(o, 0, 0, 0), 1);
        due("nothing to do", x.orders(0, 0, 5, 1), 5);
        x.line(0, SHOW, 1, 0, 0);
        due("line", x.holds(o, 0, 0, 0), 256 * 48);
        due("line", x.walk(o, 0, 0, 0), 2);
        x.line(0, SET, 3, 3, 0);
        due("line", x.orders(0, 0, 5, 1), 7);
        x.change(0, 0, SHOW, 0, 0, 0);
        due("change", x.holds(o, 0, 0, 0), 0);
        x.change(0, 1, SHOW, 1, 0, 0);
        due("change", x.orders(0, 0, 5, 1), 5);
        due("change", x.holds(o, 0, 0, 0), 256 * 48);
        x.silent(0, 2);
        due("silent", x.holds(o, 0, 0, 0), 0);
        due("two and the end", x.walk(o, 0, 0, 0), 3);
        x.silent(0, 0);
        due("silent", x.holds(o, 0, 0, 0), 256 * 48);
        x.clear(0);
        due("clear", x.holds(o, 0, 0, 0), 0);
        due("clear", x.walk(o, 0, 0, 0), 1);
        lines(x, 0, SET, 0, 1, 0);
        lines(x, 1, SET, 0, 2, 0, SHOW, 0, 0, 0);
        due("one after the other", x.orders(0, 1, 0, 0), 2);
        x.clear(0);
        due("clear", x.orders(0, 1, 0, 0), 1);
    }

    /** Answers for one choice of SAYING and PROGRAMS are not those for another one. */
    private static void promise12HoldsChoices() {
        TwinRuns x = new TwinRuns();
        for (int p = 0; p < 4; p++) {
            for (int i = 0; i < p; i++) {
                x.line(p, LEAP, 3, 12, 0);
            }
        }
        int[] saying = {saying(x, "d=d:t"), saying(x, "d<d:t"), saying(x, "c=c:t")};
        int[][] moves = new int[16][3];
        for (int round = 0; round < 2; round++) {
            for (int pq = 0; pq < 16; pq++) {
                int p = pq / 4;
                int q = pq % 4;
                moves[pq][0] = Math.max(p, q);
                // d above that of another one is not 0: it leaps at once
                moves[pq][1] = Math.max(p, Math.min(q, 1));
                moves[pq][2] = Math.max(p, q);
                for (int s = 0; s < 3; s++) {
                    due("walk " + s + " " + p + " " + q, x.walk(saying[s], p, q, 2), moves[pq][s]);
                }
                boolean same = Math.min(p, 1) == Math.min(q, 1);
                int meant = 64 * 64;
                int broken = p == q ? 0 : same ? meant : 4 * meant;
                due("d=d " + p + " " + q, x.holds(saying[0], p, q, 0), broken);
            }
        }
    }

    private static void promise13Part() {
        TwinRuns x = new TwinRuns();
        lines(x, 0, COPY, 0, 0, 0, LEAP, 3, 4, 0, COPY, 0, 0, 0, COPY, 0, 0, 0, COPY, 0, 0, 0);
        due("ahead of step 2", x.part(0, 0, 0, 1), 2);
        due("never", x.part(0, 0, 0, 16), NONE);
        due("at once", x.part(0, 0, 1, 0), 0);
        due("both empty", x.part(1, 0, 2, 3), NONE);
        lines(x, 1, COPY, 0, 0, 0, LEAP, 3, 4, 0, END, 0, 0, 0);
        due("END, and LINE 3", x.part(0, 0, 1, 0), 3);
        lines(x, 2, COPY, 0, 0, 0, LEAP, 3, 4, 0);
        due("behind the last, and END to come", x.part(1, 0, 2, 0), 2);
        lines(x, 3, REST, 0, 0, 1, LEAP, 3, 4, 0);
        due("refused", x.part(0, 0, 3, 0), 1);
        due("not refused", x.part(2, mem(0, 1, 0, 0), 3, mem(0, 1, 0, 0)), NONE);
        TwinRuns y = new TwinRuns();
        lines(y, 0, SET, 0, 1, 0, LEAP, 0, 0, 0);
        due("both are spent", y.part(0, 0, 0, 255), NONE);
        due("p", y.part(4, 0, 0, 0), U);
        due("q", y.part(0, 0, -1, 256), U);
        due("start", y.part(0, 256, 0, 0), O);
        due("other", y.part(0, 0, 0, -1), O);
    }

    private static void promise14Wait() {
        TwinRuns x = new TwinRuns();
        due("one", x.wait(12, 0, 0), O);
        due("two", x.wait(0, 12, 0), O);
        due("one", x.wait(-1, 0, 0), O);
        due("two", x.wait(0, -1, 0), O);
        due("how", x.wait(0, 0, 3), O);
        due("how", x.wait(0, 0, -1), O);
        due("0", x.wait(11, 11, 2), 0);
        due("2", x.wait(11, 11, 1), 2);
        due("1", x.wait(11, 11, 0), 1);
        due("another place", x.wait(11, 10, 1), 0);
        due("and its turn", x.wait(10, 11, 1), 0);
    }

    private static void promise15Walk() {
        TwinRuns x = new TwinRuns();
        lines(x, 0, COPY, 0, 0, 0, LEAP, 3, 3, 0, COPY, 0, 0, 0, COPY, 0, 0, 0);
        int all = saying(x, "a=a&b=b&c=c:e");
        due("places", x.walk(all, 0, 0, 0), 9);
        // 00 11 22 33 CC, and 23 32 3C C3
        due("unlike", x.walk(all, 0, 0, 1), 4);
        due("moves", x.walk(all, 0, 0, 2), 4);
        due("wait", x.wait(2, 3, 1), 0);
        due("wait", x.wait(3, 2, 2), 0);
        due("now they meet again", x.walk(all, 0, 0, 0), 7);
        due("unlike", x.walk(all, 0, 0, 1), 2);
        due("moves", x.walk(all, 0, 0, 2), 4);
        due("an empty one", x.walk(all, 0, 1, 0), 5);
        due("all unlike but the last", x.walk(all, 0, 1, 1), 4);
        due("the other way", x.walk(all, 1, 0, 2), 4);
        due("two empty ones", x.walk(all, 1, 2, 0), 1);
        due("no moves", x.walk(all, 1, 2, 2), 0);
        int never = saying(x, "a<a&a>a:e");
        due("no pair", x.walk(never, 0, 0, 0), 0);
        due("no pair", x.walk(never, 0, 0, 1), 0);
        due("no pair", x.walk(never, 0, 0, 2), 0);
        lines(x, 3, SET, 0, 1, 0, LEAP, 0, 0, 0);
        due("spent", x.walk(all, 3, 3, 2), 24);
        due("0 1 and both spent", x.walk(all, 3, 3, 0), 3);
        x.wait(0, 0, 1);
        x.wait(1, 0, 1);
        due("one after the other", x.walk(all, 3, 3, 2), 48);
        due("0 0, 1 0, 12 0, 12 1, 12 12", x.walk(all, 3, 3, 0), 5);
        due("saying", x.walk(2, 0, 0, 0), U);
        due("p", x.walk(0, -1, 0, 0), U);
        due("q", x.walk(0, 0, 4, 9), U);
        due("what", x.walk(0, 0, 0, 3), O);
        due("what", x.walk(0, 0, 0, -1), O);
    }

    private static void promise15WalkOne() {
        TwinRuns x = new TwinRuns();
        // START 0 alone comes to LINE 4, START 255 alone comes there in the other one
        lines(x, 0, LEAP, 0, 12, 0, LEAP, 1, 12, 0, LEAP, 2, 12, 0, LEAP, 3, 12, 0, COPY, 0, 0, 0);
        int all = saying(x, "a=a&b=b&c=c&d=d:e");
        due("0 to 4 and the end", x.walk(all, 0, 0, 0), 6);
        due("five moves", x.walk(all, 0, 0, 2), 5);
        due("0 and 0 stand there", x.shape(all, 0, 0, 4, 4), 4095);
        x.tell(4, 4, 0);
        due("and what is told there counts", x.fails(all, 0, 0), 404);
        // LINE 0 is stood at alone by the first one, LINE 12 by the other
        due("against nothing", x.walk(all, 0, 1, 1), 5);
        due("against nothing", x.walk(all, 1, 0, 1), 5);
    }

    private static void promise16Shape() {
        TwinRuns x = new TwinRuns();
        lines(x, 0, COPY, 0, 1, 0, SUM, 2, 0, 1);
        int less = saying(x, "a=a&b<b&c>c&d#d:e");
        // a alike: 7; b less: bit 2; c greater: bit 1; d apart: none
        due("start", x.shape(less, 0, 0, 0, 0), 7 | 4 << 3 | 2 << 6);
        due("a is b", x.shape(less, 0, 0, 1, 1), 4 | 4 << 3 | 2 << 6);
        due("c is twice b", x.shape(less, 0, 0, 12, 12), 4 | 4 << 3);
        due("nobody", x.shape(less, 0, 0, 1, 0), 4095);
        due("nobody", x.shape(less, 0, 0, 11, 11), 4095);
        due("one is empty", x.shape(less, 1, 0, 12, 1), 4 << 3 | 2 << 6);
        x.wait(0, 0, 2);
        due("waits tell", x.shape(less, 0, 0, 1, 1), 4095);
        due("waits tell", x.shape(less, 0, 0, 0, 1), 4 << 3 | 2 << 6);
        x.wait(0, 0, 0);
        due("told again", x.shape(less, 0, 0, 1, 1), 4 | 4 << 3 | 2 << 6);
        x.change(0, 0, COPY, 3, 1, 0);
        due("changed", x.shape(less, 0, 0, 1, 1), 7 | 4 << 3 | 2 << 6 | 4 << 9);
        due("saying", x.shape(1, 0, 0, 0, 0), U);
        due("p", x.shape(0, 4, 0, 0, 0), U);
        due("q", x.shape(0, 0, -1, 13, 0), U);
        due("one", x.shape(0, 0, 0, 13, 0), O);
        due("two", x.shape(0, 0, 0, 0, 13), O);
        due("one", x.shape(0, 0, 0, -1, 0), O);
        due("two", x.shape(0, 0, 0, 0, -1), O);
    }

    private static void promise17Tell() {
        TwinRuns x = new TwinRuns();
        due("all", x.tell(12, 12, 1), 4095);
        due("what was told", x.tell(12, 12, 4095), 1);
        due("and again", x.tell(12, 12, 0), 4095);
        due("another", x.tell(0, 12, 0), 4095);
        due("one", x.tell(13, 0, 0), O);
        due("two", x.tell(0, 13, 0), O);
        due("one", x.tell(-1, 0, 0), O);
        due("two", x.tell(0, -1, 0), O);
        due("bits", x.tell(0, 0, 4096), O);
        due("bits", x.tell(0, 0, -1), O);
        due("unchanged", x.tell(0, 0, 7), 4095);
    }

    private static void promise18Fails() {
        TwinRuns x = new TwinRuns();
        lines(x, 0, SUM, 0, 0, 1, LEAP, 3, 0, 0);
        int all = saying(x, "a=a&b=b&c=c&d=d:e");
        int some = saying(x, "a=a&b=b&d=d:e");
        due("the same does the same", x.fails(all, 0, 0), NONE);
        due("what is told counts, not the pairs", x.fails(some, 0, 0), NONE);
        x.tell(0, 0, 4095 - 7);
        due("a is not known to be alike at 1, 1", x.fails(all, 0, 0), 0);
        x.tell(1, 1, 4095 - 7);
        due("now at the end", x.fails(all, 0, 0), 101);
        x.tell(12, 12, 4095 - 7);
        due("kept", x.fails(all, 0, 0), NONE);
        x.tell(0, 0, 4095 - (5 << 3));
        due("b only not less: SUM may go over 4", x.fails(all, 0, 0), 0);
        x.tell(0, 0, 4095 - 7 - (1 << 3));
        due("not less and not greater is alike", x.fails(all, 0, 0), NONE);
        x.tell(0, 0, 4095);
        x.tell(1, 1, 4095 - 7 - (7 << 9));
        due("d may be unlike: one leaps", x.fails(all, 0, 0), 101);
        x.tell(0, 12, 0);
        x.tell(12, 0, 0);
        x.tell(12, 12, 0);
        due("0, 0 is led to with d unlike", x.fails(all, 0, 0), 101);
        due("one goes alone to 1, 12", x.fails(all, 0, 1), 12);
        x.tell(1, 12, 0);
        due("0, 12 leads to 1, 12 and back", x.fails(all, 0, 1), NONE);
        int never = saying(x, "a<a&a>a:e");
        x.tell(1, 1, 0);
        due("no pair stands anywhere", x.fails(never, 0, 0), NONE);
        due("empty", x.fails(all, 2, 2), NONE);
        due("saying", x.fails(3, 0, 0), U);
        due("p", x.fails(0, 4, 0), U);
        due("q", x.fails(0, 0, -1), U);
    }

    private static void promise18FailsRefused() {
        TwinRuns x = new TwinRuns();
        lines(x, 0, REST, 0, 0, 1, SHOW, 0, 0, 0);
        int all = saying(x, "a=a&b=b&c=c&d=d:e");
        due("alike", x.fails(all, 0, 0), NONE);
        x.tell(0, 0, 4095 - (7 << 3));
        x.tell(1, 1, 0);
        x.tell(12, 12, 0);
        due("one may be refused: 12, 1 and 1, 12 are told all", x.fails(all, 0, 0), 0);
        x.tell(12, 1, 0);
        x.tell(1, 12, 0);
        due("kept", x.fails(all, 0, 0), NONE);
        TwinRuns y = new TwinRuns();
        lines(y, 0, SET, 0, 1, 0, LEAP, 0, 0, 0);
        saying(y, "a=a&b=b&c=c&d=d:e");
        y.tell(12, 12, 4095);
        due("a spent one does not matter", y.fails(0, 0, 0), NONE);
        y.wait(0, 0, 2);
        y.wait(0, 1, 1);
        due("a may be unlike when one waits", y.fails(0, 0, 0), 0);
        y.tell(0, 1, 4095 - 7);
        due("what is told does not say that the second one has been set", y.fails(0, 0, 0), 1);
    }

    private static void promise19So() {
        TwinRuns x = new TwinRuns();
        lines(x, 0, SHOW, 0, 0, 0, SHOW, 1, 0, 0, SHOW, 0, 0, 0, SHOW, 2, 0, 0);
        int a = saying(x, "a=a:o");
        int b = saying(x, "b=b:o");
        int ends = saying(x, "a=a:b=b");
        int bare = saying(x, "a=a:e");
        due("b and c", x.so(a, 0, 0), 10);
        due("two", x.so(a, 0, 1), 2);
        due("a, a and c", x.so(b, 0, 0), 13);
        due("NO", x.so(ends, 0, 0), NO);
        due("NO", x.so(ends, 0, 1), NO);
        due("none is needed", x.so(bare, 0, 0), 0);
        due("none", x.so(bare, 0, 1), 0);
        x.silent(0, 2);
        due("beside those that are", x.so(a, 0, 0), 8);
        due("nothing has changed", x.told(20), 2);
        due("empty", x.so(a, 3, 0), 0);
        // either one of two gives it away when both do not: c shown once or d shown
        lines(x, 1, COPY, 1, 2, 0, SHOW, 1, 0, 0, SHOW, 2, 0, 0);
        int part = saying(x, "a=a&c=c:o");
        due("c is alike", x.so(part, 1, 0), 0);
        lines(x, 2, LEAP, 3, 3, 0, SHOW, 0, 0, 0, END, 0, 0, 0, SHOW, 0, 0, 0, SHOW, 1, 0, 0);
        int ab = saying(x, "a=a&b=b:o");
        due("a saying that fits", x.so(ab, 2, 0), 16);
        due("saying", x.so(6, 0, 0), U);
        due("saying", x.so(-1, 0, 0), U);
        due("program", x.so(0, 4, 9), U);
        due("what", x.so(0, 0, 2), O);
        due("what", x.so(0, 0, -1), O);
    }

    private static void promise19SoLeastAndState() {
        TwinRuns x = new TwinRuns();
        // LINE 2 shows by d of 0 alone, LINE 4 always
        lines(x, 0, LEAP, 3, 3, 0, SET, 0, 1, 0, SHOW, 0, 0, 0, SET, 0, 1, 0, SHOW, 0, 0, 0);
        int s = saying(x, "a=a:o");
        due("that one", x.so(s, 0, 0), 4);
        for (int i = 5; i < 10; i++) {
            x.line(0, SHOW, 0, 0, 0);
        }
        due("seven", x.so(s, 0, 0), S);
        due("OUTSIDE ahead of STATE", x.so(s, 0, 2), O);
        x.silent(0, 16);
        due("six", x.so(s, 0, 0), 4);
        x.silent(0, 1);
        due("a silent LINE of another act does not help", x.so(s, 0, 0), S);
        int no = saying(x, "a=a:b=b");
        due("STATE ahead of NO", x.so(no, 0, 0), S);
    }

    private static void promise19SoFewest() {
        TwinRuns x = new TwinRuns();
        // with d 0 it shows b, b, a; else a, b, b: without LINE 4, or without both 1 and 2, they are alike
        lines(x, 0, LEAP, 3, 4, 0, SHOW, 1, 0, 0, SHOW, 1, 0, 0, LEAP, 3, 12, 0, SHOW, 0, 0, 0, LEAP, 3, 1, 0);
        int s = saying(x, "a=a&b=b:o");
        due("one LINE is fewer than two lesser ones", x.so(s, 0, 0), 16);
        due("one", x.so(s, 0, 1), 1);
        // with d 0 it shows b, a; else a, b: either LINE will do
        lines(x, 1, LEAP, 3, 3, 0, SHOW, 1, 0, 0, LEAP, 3, 12, 0, SHOW, 0, 0, 0, LEAP, 3, 1, 0);
        due("the least of two", x.so(s, 1, 0), 2);
        due("one", x.so(s, 1, 1), 1);
        int first = saying(x, "a<a&b>a&b<b:o");
        due("no two are alike in a and b: all go", x.so(first, 0, 1), 3);
    }

    private static void promise20Fit() {
        TwinRuns x = new TwinRuns();
        lines(x, 0, SHOW, 0, 0, 0, LEAP, 3, 3, 0, SHOW, 1, 0, 0, SHOW, 2, 0, 0);
        int start = mem(1, 2, 3, 0);
        due("n 0: all", x.fit(0, start, 0, 0, 0), 256);
        due("n 0: the first", x.fit(0, start, 0, 0, 1), 0);
        due("n 1", x.fit(0, start, 0, 1, 0), 64);
        due("n 2: b is 2, or c is 2 with d above 0", x.fit(0, start, 0, 2, 0), 4 + 12);
        due("the first", x.fit(0, start, 0, 2, 1), mem(1, 0, 2, 1));
        due("n 3", x.fit(0, start, 0, 3, 0), 1);
        due("n 4: just these", x.fit(0, start, 0, 4, 0), 1);
        due("fewer shown: just these", x.fit(0, mem(1, 0, 2, 1), 0, 3, 0), 12);
        due("n 2 of two", x.fit(0, mem(1, 0, 2, 1), 0, 2, 0), 16);
        due("alike in d", x.fit(0, start, 8, 2, 0), 4);
        due("alike in a", x.fit(0, start, 1, 0, 1), mem(1, 0, 0, 0));
        due("alike in b", x.fit(0, start, 2, 0, 1), mem(0, 2, 0, 0));
        due("alike in all", x.fit(0, start, 15, 24, 1), start);
        x.silent(0, 1);
        due("silent: b, or c", x.fit(0, start, 0, 1, 0), 16 + 48);
        due("nothing shown", x.fit(1, 9, 0, 24, 0), 256);
        due("program", x.fit(4, 0, 0, 0, 0), U);
        due("program", x.fit(-1, 256, 0, 0, 0), U);
        due("start", x.fit(0, 256, 0, 0, 0), O);
        due("start", x.fit(0, -1, 0, 0, 0), O);
        due("set", x.fit(0, 0, 16, 0, 0), O);
        due("set", x.fit(0, 0, -1, 0, 0), O);
        due("n", x.fit(0, 0, 0, 25, 0), O);
        due("n", x.fit(0, 0, 0, -1, 0), O);
        due("what", x.fit(0, 0, 0, 0, 2), O);
        due("what", x.fit(0, 0, 0, 0, -1), O);
    }

    private static void promise21Far() {
        TwinRuns x = new TwinRuns();
        due("nothing is done", x.far(0, 0, 0, 1), 1);
        due("nothing is done", x.far(0, 0, 0, 2), 2);
        due("nothing is done", x.far(0, 3, 3, 3), 3);
        due("another", x.far(0, 0, 1, 3), 0);
        lines(x, 0, SUM, 0, 1, 1);
        due("twice b", x.far(0, 1, 0, 1), 2);
        due("a is lost", x.far(0, 0, 0, 3), 0);
        lines(x, 1, REST, 0, 0, 1);
        due("refused leaves a", x.far(1, 1, 0, 1), 3);
        lines(x, 2, SET, 3, 2, 0, REST, 0, 0, 3);
        due("a by 2", x.far(2, 0, 0, 1), 1);
        due("a by 2", x.far(2, 0, 0, 3), 1);
        due("d is set", x.far(2, 3, 3, 3), 0);
        due("program", x.far(4, 0, 0, 1), U);
        due("program", x.far(-1, 9, 0, 1), U);
        due("x", x.far(0, 4, 0, 1), O);
        due("x", x.far(0, -1, 0, 1), O);
        due("y", x.far(0, 0, 4, 1), O);
        due("y", x.far(0, 0, -1, 1), O);
        due("d", x.far(0, 0, 0, 0), O);
        due("d", x.far(0, 0, 0, 4), O);
    }

    private static void promise22Changed() {
        TwinRuns x = new TwinRuns();
        lines(x, 0, SET, 0, 1, 0, SHOW, 0, 0, 0);
        lines(x, 1, SET, 0, 1, 0, SHOW, 0, 0, 0, END, 0, 0, 0);
        due("steps do not count", x.changed(0, 1, 0), 0);
        due("none", x.changed(0, 1, 1), NONE);
        due("a LINE more", x.changed(0, 1, 2), 4);
        due("a LINE more", x.changed(1, 0, 2), 4);
        x.change(1, 0, COPY, 0, 1, 0);
        due("b is 1", x.changed(0, 1, 0), 192);
        due("the first", x.changed(0, 1, 1), 0);
        due("two LINES", x.changed(0, 1, 2), 5);
        x.change(1, 0, SET, 0, 1, 0);
        x.silent(1, 2);
        due("shown", x.changed(0, 1, 0), 256);
        due("the same LINES", x.changed(0, 1, 2), 4);
        lines(x, 2, LEAP, 3, 2, 0, REST, 3, 3, 3);
        due("the end alone", x.changed(2, 3, 0), 64);
        due("the first", x.changed(2, 3, 1), 0);
        due("all LINES", x.changed(2, 3, 2), 3);
        x.change(2, 0, LEAP, 0, 2, 0);
        x.change(2, 1, REST, 0, 0, 0);
        due("the end alone", x.changed(2, 3, 0), 64);
        due("a number", x.changed(2, 2, 2), 0);
        x.clear(3);
        lines(x, 3, LEAP, 0, 1, 0, REST, 0, 0, 1);
        due("b, and c", x.changed(2, 3, 2), 3);
        due("p", x.changed(4, 0, 0), U);
        due("q", x.changed(0, -1, 3), U);
        due("what", x.changed(0, 0, 3), O);
        due("what", x.changed(0, 0, -1), O);
    }

    private static void promise23Orders() {
        TwinRuns x = new TwinRuns();
        lines(x, 0, SET, 0, 1, 0, SUM, 1, 1, 0);
        lines(x, 1, SET, 0, 2, 0, SUM, 1, 1, 0);
        // a is the later SET; b gets what a is at each SUM
        due("ends", x.orders(0, 1, 0, 0), 4);
        due("least", x.orders(0, 1, 0, 1), mem(1, 2, 0, 0));
        due("1 then 2", x.orders(0, 1, 0, 10 + mem(2, 3, 0, 0)), 1);
        due("2 then 1", x.orders(0, 1, 0, 10 + mem(1, 3, 0, 0)), 1);
        due("both by 1", x.orders(0, 1, 0, 10 + mem(1, 2, 0, 0)), 1);
        due("both by 2", x.orders(0, 1, 0, 10 + mem(2, 0, 0, 0)), 1);
        due("not so", x.orders(0, 1, 0, 10 + mem(2, 2, 0, 0)), 0);
        due("from another memory", x.orders(0, 1, mem(0, 1, 2, 3), 1), mem(1, 0, 2, 3));
        // a loop that the other one ends
        lines(x, 2, LEAP, 3, 0, 0);
        lines(x, 3, SET, 3, 0, 0);
        due("the other ends it", x.orders(2, 3, 1, 0), 1);
        due("as 0", x.orders(2, 3, 1, 1), 0);
        due("0 it is", x.orders(2, 3, 1, 10), 1);
        due("255 it is not", x.orders(2, 3, 1, 265), 0);
        due("nobody ends it", x.orders(2, 2, 1, 0), 0);
        due("none", x.orders(2, 2, 1, 1), NONE);
        due("not so", x.orders(2, 2, 1, 11), 0);
        x.clear(3);
        lines(x, 3, REST, 0, 0, 1, SET, 1, 3, 0);
        due("refused at once", x.orders(3, 3, 0, 1), 0);
        x.clear(2);
        lines(x, 2, SET, 1, 1, 0);
        due("refused or not", x.orders(2, 3, mem(1, 0, 0, 0), 0), 2);
        due("refused, then set", x.orders(2, 3, mem(1, 0, 0, 0), 10 + mem(1, 1, 0, 0)), 1);
        due("not refused", x.orders(2, 3, mem(1, 0, 0, 0), 10 + mem(0, 3, 0, 0)), 1);
        due("1 by 1 leaves 0; b set behind it", x.orders(2, 3, mem(1, 1, 0, 0), 10 + mem(0, 1, 0, 0)), 1);
        x.clear(2);
        x.clear(3);
        due("nothing to do", x.orders(2, 3, 200, 1), 200);
        due("p", x.orders(4, 0, 0, 0), U);
        due("q", x.orders(0, -1, 256, 0), U);
        due("memory", x.orders(0, 0, 256, 0), O);
        due("memory", x.orders(0, 0, -1, 0), O);
        for (int what : new int[] {-1, 2, 9, 266}) {
            due("what", x.orders(0, 0, 0, what), O);
        }
    }

    /** No STEPS are counted in ORDERS: two long loops come to their end. */
    private static void promise23OrdersLong() {
        TwinRuns x = new TwinRuns();
        for (int p = 0; p < 2; p++) {
            for (int i = 0; i < 10; i++) {
                x.line(p, COPY, 2, 2, 0);
            }
            lines(x, p, LESS, 3, 3, 0, LEAP, 3, 0, 0);
        }
        due("spent", x.run(0, mem(1, 0, 0, 3), 0), 2);
        due("it can end", x.orders(0, 2, mem(1, 0, 0, 3), 0), 1);
        due("by 0", x.orders(0, 2, mem(1, 0, 0, 3), 1), mem(1, 0, 0, 0));
        due("both", x.orders(0, 1, mem(1, 0, 0, 3), 10 + mem(1, 0, 0, 0)), 1);
    }

    private static void promise24Told() {
        TwinRuns x = new TwinRuns();
        lines(x, 0, END, 0, 0, 0);
        lines(x, 3, END, 0, 0, 0, END, 0, 0, 0);
        x.silent(1, 5);
        x.silent(3, 4095);
        saying(x, "a=a:e");
        signs(x, "a=");
        due("sayings", x.told(0), 1);
        due("signs", x.told(1), 2);
        due("lines", x.told(10), 1);
        due("lines", x.told(11), 0);
        due("lines", x.told(12), 0);
        due("lines", x.told(13), 2);
        due("silent", x.told(20), 0);
        due("silent", x.told(21), 5);
        due("silent", x.told(22), 0);
        due("silent", x.told(23), 4095);
        for (int what : new int[] {-1, 2, 9, 14, 19, 24, Integer.MAX_VALUE, Integer.MIN_VALUE}) {
            due("what", x.told(what), O);
        }
    }

    private static void all() {
        at = "promise 1"; promise1NewObject();
        at = "promise 2"; promise2Line();
        at = "promise 3"; promise3Change();
        at = "promise 4"; promise4Clear();
        at = "promise 5"; promise5Silent();
        at = "promise 6"; promise6RunActs(); promise6RunEdges(); promise6RunRounds(); promise6RunLastStep();
        at = "promise 7"; promise7Say();
        at = "promise 8"; promise8Wipe();
        at = "promise 9"; promise9Fault();
        at = "promise 10"; promise10Saying();
        at = "promise 11"; promise11Pair(); promise11PairSigns();
        at = "promise 12"; promise12Holds(); promise12HoldsLone(); promise12HoldsAnew(); promise12HoldsChoices();
        at = "promise 13"; promise13Part();
        at = "promise 14"; promise14Wait();
        at = "promise 15"; promise15Walk(); promise15WalkOne();
        at = "promise 16"; promise16Shape();
        at = "promise 17"; promise17Tell();
        at = "promise 18"; promise18Fails(); promise18FailsRefused();
        at = "promise 19"; promise19So(); promise19SoLeastAndState(); promise19SoFewest();
        at = "promise 20"; promise20Fit();
        at = "promise 21"; promise21Far();
        at = "promise 22"; promise22Changed();
        at = "promise 23"; promise23Orders(); promise23OrdersLong();
        at = "promise 24"; promise24Told();
    }

    public static void main(String[] args) {
        all();
        System.out.println("PromiseTest: " + checks + " checks, " + wrong + " wrong");
        if (wrong != 0) {
            System.exit(1);
        }
    }
}
