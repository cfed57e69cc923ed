import java.util.Arrays;
import java.util.Random;

/** Long mixed runs of calls, each answer compared with PlainTwin's. The seeds are fixed. */
public final class RandomTest {
    private static final int[] ODD = {Integer.MIN_VALUE, -7, -1, 4, 5, 12, 13, 16, 25, 34, 256, 266, 4096, 5000,
        Integer.MAX_VALUE};
    private static final String[] CALLS = {"line", "change", "clear", "silent", "run", "say", "wipe", "fault",
        "saying", "pair", "holds", "part", "wait", "walk", "shape", "tell", "fails", "so", "fit", "far", "changed",
        "orders", "told"};

    private final Random random;
    private final TwinRuns twin = new TwinRuns();
    private final PlainTwin plain = new PlainTwin();
    private final StringBuilder log = new StringBuilder();
    private int calls = 0;
    private int wrong = 0;
    private int odds = 30;

    private RandomTest(long seed) {
        random = new Random(seed);
    }

    private int below(int n) {
        return random.nextInt(n);
    }

    /** Mostly a number from low to high, now and then an odd one. */
    private int some(int low, int high) {
        return below(odds) == 0 ? ODD[below(ODD.length)] : low + below(high - low + 1);
    }

    private void call(String name, int... a) {
        int got = answer(name, a);
        int due = answerDue(name, a);
        log.append(name).append(Arrays.toString(a)).append(" = ").append(due).append('\n');
        calls++;
        if (got != due) {
            wrong++;
            System.out.println(log + "but answered " + got);
        }
    }

    private int answer(String name, int[] a) {
        return switch (name) {
            case "line" -> twin.line(a[0], a[1], a[2], a[3], a[4]);
            case "change" -> twin.change(a[0], a[1], a[2], a[3], a[4], a[5]);
            case "clear" -> twin.clear(a[0]);
            case "silent" -> twin.silent(a[0], a[1]);
            case "run" -> twin.run(a[0], a[1], a[2]);
            case "say" -> twin.say(a[0]);
            case "wipe" -> twin.wipe();
            case "fault" -> twin.fault();
            case "saying" -> twin.saying();
            case "pair" -> twin.pair(a[0], a[1], a[2], a[3], a[4], a[5]);
            case "holds" -> twin.holds(a[0], a[1], a[2], a[3]);
            case "part" -> twin.part(a[0], a[1], a[2], a[3]);
            case "wait" -> twin.wait(a[0], a[1], a[2]);
            case "walk" -> twin.walk(a[0], a[1], a[2], a[3]);
            case "shape" -> twin.shape(a[0], a[1], a[2], a[3], a[4]);
            case "tell" -> twin.tell(a[0], a[1], a[2]);
            case "fails" -> twin.fails(a[0], a[1], a[2]);
            case "so" -> twin.so(a[0], a[1], a[2]);
            case "fit" -> twin.fit(a[0], a[1], a[2], a[3], a[4]);
            case "far" -> twin.far(a[0], a[1], a[2], a[3]);
            case "changed" -> twin.changed(a[0], a[1], a[2]);
            case "orders" -> twin.orders(a[0], a[1], a[2], a[3]);
            default -> twin.told(a[0]);
        };
    }

    private int answerDue(String name, int[] a) {
        return switch (name) {
            case "line" -> plain.line(a[0], a[1], a[2], a[3], a[4]);
            case "change" -> plain.change(a[0], a[1], a[2], a[3], a[4], a[5]);
            case "clear" -> plain.clear(a[0]);
            case "silent" -> plain.silent(a[0], a[1]);
            case "run" -> plain.run(a[0], a[1], a[2]);
            case "say" -> plain.say(a[0]);
            case "wipe" -> plain.wipe();
            case "fault" -> plain.fault();
            case "saying" -> plain.saying();
            case "pair" -> plain.pair(a[0], a[1], a[2], a[3], a[4], a[5]);
            case "holds" -> plain.holds(a[0], a[1], a[2], a[3]);
            case "part" -> plain.part(a[0], a[1], a[2], a[3]);
            case "wait" -> plain.wait(a[0], a[1], a[2]);
            case "walk" -> plain.walk(a[0], a[1], a[2], a[3]);
            case "shape" -> plain.shape(a[0], a[1], a[2], a[3], a[4]);
            case "tell" -> plain.tell(a[0], a[1], a[2]);
            case "fails" -> plain.fails(a[0], a[1], a[2]);
            case "so" -> plain.so(a[0], a[1], a[2]);
            case "fit" -> plain.fit(a[0], a[1], a[2], a[3], a[4]);
            case "far" -> plain.far(a[0], a[1], a[2], a[3]);
            case "changed" -> plain.changed(a[0], a[1], a[2]);
            case "orders" -> plain.orders(a[0], a[1], a[2], a[3]);
            default -> plain.told(a[0]);
        };
    }

    /** Act and numbers as they may be, with LEAPs that mostly go to LINES that are there. */
    private int[] act(int size) {
        int act = some(0, 7);
        if (act == 7 && below(3) > 0) {
            act = 6;
        }
        int a = act == 7 ? 0 : some(0, 3);
        int b = act == 5 ? some(0, Math.min(12, size + 1)) : act == 6 || act == 7 ? 0 : some(0, 3);
        int c = act >= 2 && act <= 4 ? some(0, 3) : below(odds * 2) == 0 ? 1 : 0;
        return new int[] {act, a, b, c};
    }

    private void writeProgram(int p, int size) {
        for (int i = 0; i < size; i++) {
            int[] act = act(size);
            call("line", p, act[0], act[1], act[2], act[3]);
        }
    }

    private String test(boolean behind) {
        if (behind && below(2) == 0) {
            return "" + "eot".charAt(below(3));
        }
        char letter = (char) ('a' + below(4));
        char other = below(3) > 0 ? letter : (char) ('a' + below(4));
        return "" + letter + "===<>#".charAt(below(6)) + other;
    }

    private void writeSaying() {
        StringBuilder text = new StringBuilder(test(false));
        for (int n = below(4); n > 0; n--) {
            text.append('&').append(test(false));
        }
        text.append(':').append(test(true));
        for (int n = below(3); n > 0; n--) {
            text.append('&').append(test(true));
        }
        if (below(6) == 0) {
            text.setCharAt(below(text.length()), "abe:&=#x".charAt(below(8)));
        }
        for (int i = 0; i < text.length(); i++) {
            call("say", text.charAt(i));
            if (below(8) == 0) {
                call("fault");
            }
        }
        call("fault");
        call("saying");
        call("wipe");
    }

    /** What a WALK itself finds is told, so that FAILS comes further than the first PLACE. */
    private void tellFound(int saying, int p, int q) {
        for (int i = 0; i <= 12; i++) {
            for (int j = 0; j <= 12; j++) {
                int bits = twin.shape(saying, p, q, i, j);
                if (bits >= 0 && bits < 4095) {
                    call("tell", i, j, below(4) == 0 ? bits & below(4096) : bits);
                }
            }
        }
        call("fails", saying, p, q);
    }

    private void any() {
        int p = some(0, 3), q = some(0, 3), s = some(0, 3), one = some(0, 255), two = some(0, 255);
        switch (CALLS[below(CALLS.length)]) {
            case "line" -> writeProgram(p, 1);
            case "change" -> {
                int[] act = act(6);
                call("change", p, some(0, 5), act[0], act[1], act[2], act[3]);
            }
            case "clear" -> {
                call("clear", p);
                writeProgram(p, below(6));
            }
            case "silent" -> call("silent", p, some(0, 4095) & some(0, 4095));
            case "run" -> call("run", p, one, below(2) == 0 ? some(0, 3) : some(10, 33));
            case "say" -> call("say", some(33, 126));
            case "wipe" -> call("wipe");
            case "fault" -> call("fault");
            case "saying" -> writeSaying();
            case "pair" -> call("pair", s, p, one, q, two, some(0, 1));
            case "holds" -> call("holds", s, p, q, some(0, 3));
            case "part" -> call("part", p, one, q, below(2) == 0 ? one ^ 1 : two);
            case "wait" -> call("wait", some(0, 6), some(0, 6), some(0, 2));
            case "walk" -> call("walk", s, p, q, some(0, 2));
            case "shape" -> call("shape", s, p, q, below(2) == 0 ? 12 : some(0, 12), some(0, 12));
            case "tell" -> call("tell", some(0, 12), some(0, 12), some(0, 4095) & some(0, 4095));
            case "fails" -> tellFound(s, p, q);
            case "so" -> call("so", s, p, some(0, 1));
            case "fit" -> call("fit", p, one, some(0, 15), below(2) == 0 ? some(0, 3) : some(0, 24), some(0, 1));
            case "far" -> call("far", p, some(0, 3), some(0, 3), some(1, 3));
            case "changed" -> call("changed", p, q, some(0, 2));
            case "orders" -> call("orders", p, q, one, below(2) == 0 ? some(0, 1) : some(10, 265));
            default -> call("told", below(2) == 0 ? some(0, 1) : some(10, 23));
        }
    }

    private void go() {
        for (int p = 0; p < 4; p++) {
            writeProgram(p, below(3) == 0 ? 12 : below(8));
        }
        writeSaying();
        writeSaying();
        while (calls < 260) {
            any();
        }
    }

    /** No numbers at all may make a call fail, whatever there is. */
    private void goOdd() {
        odds = 2;
        while (calls < 400) {
            any();
        }
    }

    public static void main(String[] args) {
        int wrong = 0;
        int calls = 0;
        int runs = args.length > 0 ? Integer.parseInt(args[0]) : 60;
        for (int seed = 0; seed < runs && wrong == 0; seed++) {
            RandomTest test = new RandomTest(seed);
            test.go();
            test.goOdd();
            wrong += test.wrong;
            calls += test.calls;
        }
        System.out.println("RandomTest: " + calls + " calls, " + wrong + " wrong");
        if (wrong != 0) {
            System.exit(1);
        }
    }
}
