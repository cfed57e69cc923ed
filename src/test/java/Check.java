import java.util.ArrayList;
import java.util.List;

/** What the tests of boundary cases share: each test stands for one sentence of the document. */
final class Check {
    static final int UNKNOWN = TwinRuns.UNKNOWN, OUTSIDE = TwinRuns.OUTSIDE, STATE = TwinRuns.STATE;
    static final int FULL = TwinRuns.FULL, NO = TwinRuns.NO, NONE = TwinRuns.NONE;
    static final int SET = 0, COPY = 1, SUM = 2, LESS = 3, REST = 4, LEAP = 5, SHOW = 6, END = 7;

    /** All VARIABLES alike at the start: 256 PAIRS are MEANT. */
    static final String SAME = "a=a&b=b&c=c&d=d:";

    private static int checks = 0;
    private static int wrong = 0;
    private static String sentence = "";
    /** What look() answers of rich() when no call was refused. */
    private static int[] untouched = null;

    /** A call of which the test tells one number. */
    interface Call {
        int answer(TwinRuns x, int n);
    }

    /** A call whose numbers are all told. */
    interface Ask {
        int answer(TwinRuns x);
    }

    /** A call about a number, a SAYING or a MEMORY, and two PROGRAMS. */
    interface Choice {
        int answer(TwinRuns x, int n, int p, int q);
    }

    interface Maker {
        TwinRuns make();
    }

    private Check() {
    }

    static void sentence(String text, Runnable test) {
        sentence = text;
        int before = checks;
        test.run();
        if (checks == before) {
            wrong++;
            System.out.println(text + ": nothing was looked at");
        }
    }

    static void due(String what, int got, int want) {
        checks++;
        if (got != want) {
            wrong++;
            System.out.println(sentence + ": " + what + " answered " + got + ", due is " + want);
        }
    }

    static void end(String name) {
        System.out.println(name + ": " + checks + " checks, " + wrong + " wrong");
        if (wrong != 0) {
            System.exit(1);
        }
    }

    // ---- short ways to tell things

    static int mem(int a, int b, int c, int d) {
        return 64 * a + 16 * b + 4 * c + d;
    }

    /** Digit v of a MEMORY. */
    static int digit(int memory, int v) {
        return new int[] {memory / 64 % 4, memory / 16 % 4, memory / 4 % 4, memory % 4}[v];
    }

    /** LINES of four numbers each. */
    static TwinRuns lines(TwinRuns x, int program, int... n) {
        for (int i = 0; i + 3 < n.length; i += 4) {
            if (x.line(program, n[i], n[i + 1], n[i + 2], n[i + 3]) < 0) {
                due("a LINE of the test's own", -1, 0);
            }
        }
        return x;
    }

    static TwinRuns many(TwinRuns x, int program, int count, int... line) {
        for (int i = 0; i < count; i++) {
            lines(x, program, line);
        }
        return x;
    }

    static TwinRuns signs(TwinRuns x, String text) {
        for (int i = 0; i < text.length(); i++) {
            x.say(text.charAt(i));
        }
        return x;
    }

    static int saying(TwinRuns x, String text) {
        int number = signs(x, text).saying();
        if (number < 0) {
            due("a SAYING of the test's own", number, 0);
        }
        return number;
    }

    // ---- numbers that are allowed, and those that are refused

    /** The numbers from low to high are answered, all others refused; a refused one changes nothing. */
    static void range(String what, Call call, int low, int high, int refusal) {
        for (int n : new int[] {low, Math.min(low + 1, high), Math.max(high - 1, low), high}) {
            int got = call.answer(rich(), n);
            due(what + " " + n + " is allowed", got >= 0 || got == NONE ? 1 : got, 1);
        }
        int[] far = {low - 1, high + 1, low + 256, high + 4096, low + 65536, Integer.MIN_VALUE, Integer.MAX_VALUE,
            Integer.MIN_VALUE + low, -high - 1, high + 16};
        List<Integer> out = new ArrayList<>();
        for (int n : far) {
            if (n < low || n > high) {
                out.add(n);
            }
        }
        refused(what, call, refusal, out.stream().mapToInt(n -> n).toArray());
    }

    /** Each of these numbers is refused, and changes nothing. */
    static void refused(String what, Call call, int refusal, int... numbers) {
        TwinRuns x = rich();
        for (int n : numbers) {
            due(what + " " + n, call.answer(x, n), refusal);
        }
        unchanged(what, x);
    }

    /** Refused of a rich() object, which is then as it was. */
    static void refused(String what, Ask ask, int refusal) {
        TwinRuns x = rich();
        due(what, ask.answer(x), refusal);
        unchanged(what, x);
    }

    /** What is asked just before makes no difference: any two choices of numbers and PROGRAMS, one behind the other. */
    static void anyOrder(int numbers, Maker maker, Choice choice) {
        int[] alone = new int[16 * numbers];
        for (int i = 0; i < alone.length; i++) {
            alone[i] = choose(choice, maker.make(), i);
        }
        for (int i = 0; i < alone.length; i++) {
            TwinRuns x = maker.make();
            for (int j = 0; j < alone.length; j++) {
                due("choice " + i, choose(choice, x, i), alone[i]);
                due("choice " + j + " behind " + i, choose(choice, x, j), alone[j]);
            }
        }
    }

    private static int choose(Choice choice, TwinRuns x, int i) {
        return choice.answer(x, i / 16, i / 4 % 4, i % 4);
    }

    private static void unchanged(String what, TwinRuns x) {
        if (untouched == null) {
            untouched = look(rich());
        }
        int[] seen = look(x);
        int unlike = 0;
        for (int i = 0; i < seen.length; i++) {
            unlike += seen[i] == untouched[i] ? 0 : 1;
        }
        due(what + " is refused: answers that were changed by it", unlike, 0);
    }

    /** An object with something of each kind: 5, 11, 1 and 0 LINES, two SAYINGS, the signs of a third one. */
    static TwinRuns rich() {
        TwinRuns x = new TwinRuns();
        lines(x, 0, LEAP, 3, 2, 0, SHOW, 0, 0, 0, SHOW, 1, 0, 0, REST, 0, 1, 2, SHOW, 3, 0, 0);
        many(x, 1, 9, SUM, 0, 0, 1);
        lines(x, 1, SHOW, 0, 0, 0, LEAP, 2, 0, 0);
        lines(x, 2, SET, 2, 3, 0);
        x.silent(0, 16);
        x.silent(3, 5);
        saying(x, "a=a&b<b:o");
        saying(x, "d#c:a=a&e&t");
        signs(x, "c=c:o");
        x.wait(0, 0, 1);
        x.wait(2, 11, 2);
        x.tell(0, 0, 0);
        x.tell(1, 0, 4088);
        x.tell(12, 12, 7);
        // what was found once may be kept inside
        x.holds(0, 0, 1, 0);
        x.walk(0, 0, 1, 0);
        x.orders(0, 1, 27, 0);
        return x;
    }

    /** All that can be seen of a rich() object, in fewer calls than it has left. */
    private static int[] look(TwinRuns x) {
        List<Integer> seen = new ArrayList<>();
        for (int what : new int[] {0, 1, 10, 11, 12, 13, 20, 21, 22, 23}) {
            seen.add(x.told(what));
        }
        for (int p = 0; p < 4; p++) {
            for (int what : new int[] {0, 1, 2, 3, 10, 11}) {
                seen.add(x.run(p, 27, what));
                seen.add(x.run(p, 228, what));
            }
            seen.add(x.changed(p, (p + 1) % 4, 2));
        }
        for (int s = 0; s < 2; s++) {
            for (int what = 0; what < 4; what++) {
                seen.add(x.holds(s, 0, 1, what));
                seen.add(x.walk(s, 0, 1, Math.min(what, 2)));
            }
            seen.add(x.fails(s, 0, 1));
            seen.add(x.so(s, 0, 0));
            seen.add(x.pair(s, 0, 27, 1, 59, 1));
            seen.add(x.orders(0, 1, 27, s));
        }
        seen.add(x.fault());
        int third = x.saying();
        seen.add(third);
        seen.add(x.holds(third, 0, 1, 0));
        lookAtPlaces(x, seen);
        return seen.stream().mapToInt(n -> n).toArray();
    }

    private static void lookAtPlaces(TwinRuns x, List<Integer> seen) {
        for (int i = 0; i < 13; i++) {
            for (int j = 0; j < 13; j++) {
                seen.add(x.tell(i, j, 0));
                if (i < 12 && j < 12) {
                    seen.add(x.wait(i, j, 0));
                }
            }
        }
    }
}
