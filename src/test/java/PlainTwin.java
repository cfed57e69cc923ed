import java.util.ArrayList;
import java.util.Arrays;
import java.util.List;
import java.util.TreeSet;

/**
 * The document again, word by word and as slow as that is: the class is compared with it.
 * Nothing is kept between calls, and nothing is shared with the class under test.
 */
final class PlainTwin {
    private static final int UNKNOWN = -1, OUTSIDE = -2, STATE = -3, FULL = -4, NO = -5, NONE = -6;

    private final List<List<int[]>> programs = new ArrayList<>();
    private final int[] silent = new int[4];
    private String text = "";
    private final List<String> sayings = new ArrayList<>();
    private final int[][] waits = new int[12][12];
    private final int[][] tolds = new int[13][13];

    PlainTwin() {
        for (int i = 0; i < 4; i++) {
            programs.add(new ArrayList<>());
        }
        for (int[] row : tolds) {
            Arrays.fill(row, 4095);
        }
    }

    // ---- one run, made step by step

    private static final class Machine {
        final List<int[]> lines;
        final int quiet;
        final int[] memory;
        int at = 0;
        int steps = 0;
        int end = -1;
        final List<Integer> shown = new ArrayList<>();

        Machine(List<int[]> lines, int quiet, int start) {
            this.lines = lines;
            this.quiet = quiet;
            this.memory = digits(start);
            look();
        }

        void look() {
            if (end < 0 && at >= lines.size()) {
                end = 0;
            }
            if (end < 0 && steps >= 24) {
                end = 2;
            }
        }

        int place() {
            return end >= 0 ? 12 : at;
        }

        void step() {
            int[] l = lines.get(at);
            steps++;
            int line = at;
            at++;
            switch (l[0]) {
                case 0 -> memory[l[1]] = l[2];
                case 1 -> memory[l[1]] = memory[l[2]];
                case 2 -> memory[l[1]] = (memory[l[2]] + memory[l[3]]) % 4;
                case 3 -> memory[l[1]] = (memory[l[2]] - memory[l[3]] + 4) % 4;
                case 4 -> {
                    if (memory[l[3]] == 0) {
                        end = 1;
                    } else {
                        memory[l[1]] = memory[l[2]] % memory[l[3]];
                    }
                }
                case 5 -> at = memory[l[1]] > 0 ? l[2] : at;
                case 6 -> {
                    if ((quiet & (1 << line)) == 0) {
                        shown.add(memory[l[1]]);
                    }
                }
                default -> end = 0;
            }
            look();
        }

        Machine finish() {
            while (end < 0) {
                step();
            }
            return this;
        }
    }

    private static int[] digits(int n) {
        return new int[] {n / 64 % 4, n / 16 % 4, n / 4 % 4, n % 4};
    }

    private static int number(int[] m) {
        return m[0] * 64 + m[1] * 16 + m[2] * 4 + m[3];
    }

    private Machine machine(int p, int start) {
        return new Machine(programs.get(p), silent[p], start);
    }

    private Machine[] all(int p, int quiet) {
        Machine[] row = new Machine[256];
        for (int s = 0; s < 256; s++) {
            row[s] = new Machine(programs.get(p), quiet, s).finish();
        }
        return row;
    }

    // ---- 1

    private static boolean in(int n, int low, int high) {
        return low <= n && n <= high;
    }

    private static boolean program(int p) {
        return in(p, 0, 3);
    }

    private boolean known(int saying) {
        return in(saying, 0, sayings.size() - 1);
    }

    private static boolean act(int act, int a, int b, int c) {
        boolean v = in(a, 0, 3);
        return switch (act) {
            case 0, 1 -> v && in(b, 0, 3) && c == 0;
            case 2, 3, 4 -> v && in(b, 0, 3) && in(c, 0, 3);
            case 5 -> v && in(b, 0, 12) && c == 0;
            case 6 -> v && b == 0 && c == 0;
            case 7 -> a == 0 && b == 0 && c == 0;
            default -> false;
        };
    }

    int line(int p, int act, int a, int b, int c) {
        if (!program(p)) return UNKNOWN;
        if (!act(act, a, b, c)) return OUTSIDE;
        if (programs.get(p).size() == 12) return FULL;
        programs.get(p).add(new int[] {act, a, b, c});
        return programs.get(p).size() - 1;
    }

    int change(int p, int line, int act, int a, int b, int c) {
        if (!program(p) || !in(line, 0, programs.get(p).size() - 1)) return UNKNOWN;
        if (!act(act, a, b, c)) return OUTSIDE;
        return programs.get(p).set(line, new int[] {act, a, b, c})[0];
    }

    int clear(int p) {
        if (!program(p)) return UNKNOWN;
        int n = programs.get(p).size();
        programs.get(p).clear();
        silent[p] = 0;
        return n;
    }

    int silent(int p, int lines) {
        if (!program(p)) return UNKNOWN;
        if (!in(lines, 0, 4095)) return OUTSIDE;
        int old = silent[p];
        silent[p] = lines;
        return old;
    }

    int run(int p, int start, int what) {
        if (!program(p)) return UNKNOWN;
        if (!in(start, 0, 255) || !in(what, 0, 3) && !in(what, 10, 33)) return OUTSIDE;
        Machine m = machine(p, start).finish();
        return switch (what) {
            case 0 -> m.end;
            case 1 -> number(m.memory);
            case 2 -> m.steps;
            case 3 -> m.shown.size();
            default -> what - 10 < m.shown.size() ? m.shown.get(what - 10) : NONE;
        };
    }

    // ---- 2

    int say(int sign) {
        if (!in(sign, 33, 126)) return OUTSIDE;
        if (text.length() == 40) return FULL;
        text += (char) sign;
        return text.length();
    }

    int wipe() {
        int n = text.length();
        text = "";
        return n;
    }

    private static final String TEST = "[a-d][=<>#][a-d]";
    private static final String END_TEST = "(" + TEST + "|[eot])";
    private static final String SAYING = TEST + "(&" + TEST + ")*:" + END_TEST + "(&" + END_TEST + ")*";

    /** Whether some text that begins so is a saying: one of these tails then ends it well. */
    private static boolean canGoOn(String head) {
        for (String tail : new String[] {"", "=a:e", "a:e", ":e", "a=a:e", "e", "=a", "a", "&e"}) {
            if ((head + tail).matches(SAYING)) return true;
        }
        return false;
    }

    int fault() {
        for (int i = 0; i < text.length(); i++) {
            if (!canGoOn(text.substring(0, i + 1))) return i;
        }
        return text.matches(SAYING) ? NONE : text.length();
    }

    int saying() {
        if (sayings.size() == 6) return FULL;
        if (fault() != NONE) return NO;
        sayings.add(text);
        text = "";
        return sayings.size() - 1;
    }

    private static boolean stands(String test, int[] one, int[] two) {
        int x = one[test.charAt(0) - 'a'];
        int y = two[test.charAt(2) - 'a'];
        return switch (test.charAt(1)) {
            case '=' -> x == y;
            case '<' -> x < y;
            case '>' -> x > y;
            default -> x != y;
        };
    }

    private static boolean meant(String[] tests, int one, int two) {
        for (String test : tests) {
            if (!stands(test, digits(one), digits(two))) return false;
        }
        return true;
    }

    private static boolean comes(String[] tests, Machine one, Machine two) {
        for (String test : tests) {
            boolean so = switch (test) {
                case "e" -> one.end == two.end;
                case "o" -> one.shown.equals(two.shown);
                case "t" -> one.steps == two.steps;
                default -> stands(test, one.memory, two.memory);
            };
            if (!so) return false;
        }
        return true;
    }

    private String[] ahead(int saying) {
        return sayings.get(saying).split(":")[0].split("&");
    }

    private String[] behind(int saying) {
        return sayings.get(saying).split(":")[1].split("&");
    }

    int pair(int saying, int p, int start, int q, int other, int what) {
        if (!known(saying) || !program(p) || !program(q)) return UNKNOWN;
        if (!in(start, 0, 255) || !in(other, 0, 255) || !in(what, 0, 1)) return OUTSIDE;
        boolean meant = meant(ahead(saying), start, other);
        boolean comes = comes(behind(saying), machine(p, start).finish(), machine(q, other).finish());
        return (what == 0 ? meant : meant && !comes) ? 1 : 0;
    }

    int holds(int saying, int p, int q, int what) {
        if (!known(saying) || !program(p) || !program(q)) return UNKNOWN;
        if (!in(what, 0, 3)) return OUTSIDE;
        String[] ahead = ahead(saying);
        String[] behind = behind(saying);
        Machine[] ones = all(p, silent[p]);
        Machine[] twos = all(q, silent[q]);
        int broken = 0, first = NONE, meant = 0, lone = NONE;
        for (int s = 0; s < 256; s++) {
            boolean some = false;
            for (int t = 0; t < 256; t++) {
                if (!meant(ahead, s, t)) continue;
                meant++;
                if (comes(behind, ones[s], twos[t])) {
                    some = true;
                } else {
                    broken++;
                    if (first == NONE) first = 256 * s + t;
                }
            }
            if (!some && lone == NONE) lone = s;
        }
        return new int[] {broken, first, meant, lone}[what];
    }

    int part(int p, int start, int q, int other) {
        if (!program(p) || !program(q)) return UNKNOWN;
        if (!in(start, 0, 255) || !in(other, 0, 255)) return OUTSIDE;
        Machine one = machine(p, start);
        Machine two = machine(q, other);
        for (int step = 0; ; step++) {
            boolean oneEnded = one.end >= 0;
            boolean twoEnded = two.end >= 0;
            if (oneEnded && twoEnded) return NONE;
            if (oneEnded || twoEnded || one.at != two.at) return step;
            one.step();
            two.step();
        }
    }

    // ---- 3

    int wait(int one, int two, int how) {
        if (!in(one, 0, 11) || !in(two, 0, 11) || !in(how, 0, 2)) return OUTSIDE;
        int old = waits[one][two];
        waits[one][two] = how;
        return old;
    }

    private static int bitsOf(int[] one, int[] two) {
        int bits = 0;
        for (int v = 0; v < 4; v++) {
            if (one[v] == two[v]) bits |= 1 << (3 * v);
            if (one[v] >= two[v]) bits |= 1 << (3 * v + 1);
            if (one[v] <= two[v]) bits |= 1 << (3 * v + 2);
        }
        return bits;
    }

    /** Shapes of places, -1 where no pair stands; the most moves are put into the second row. */
    private int[][][] walked(int saying, int p, int q) {
        int[][] shapes = new int[13][13];
        for (int[] row : shapes) Arrays.fill(row, -1);
        int most = 0;
        String[] ahead = ahead(saying);
        for (int s = 0; s < 256; s++) {
            for (int t = 0; t < 256; t++) {
                if (!meant(ahead, s, t)) continue;
                Machine one = machine(p, s);
                Machine two = machine(q, t);
                for (int moves = 0; ; moves++) {
                    int bits = bitsOf(one.memory, two.memory);
                    int old = shapes[one.place()][two.place()];
                    shapes[one.place()][two.place()] = old < 0 ? bits : old & bits;
                    most = Math.max(most, moves);
                    if (one.end >= 0 && two.end >= 0) break;
                    int how = one.end >= 0 ? 2 : two.end >= 0 ? 1 : waits[one.at][two.at];
                    if (how != 2) one.step();
                    if (how != 1) two.step();
                }
            }
        }
        return new int[][][] {shapes, {{most}}};
    }

    int walk(int saying, int p, int q, int what) {
        if (!known(saying) || !program(p) || !program(q)) return UNKNOWN;
        if (!in(what, 0, 2)) return OUTSIDE;
        int[][][] walked = walked(saying, p, q);
        int places = 0, unlike = 0;
        for (int i = 0; i <= 12; i++) {
            for (int j = 0; j <= 12; j++) {
                if (walked[0][i][j] < 0) continue;
                places++;
                if (i != j) unlike++;
            }
        }
        return new int[] {places, unlike, walked[1][0][0]}[what];
    }

    int shape(int saying, int p, int q, int one, int two) {
        if (!known(saying) || !program(p) || !program(q)) return UNKNOWN;
        if (!in(one, 0, 12) || !in(two, 0, 12)) return OUTSIDE;
        int bits = walked(saying, p, q)[0][one][two];
        return bits < 0 ? 4095 : bits;
    }

    int tell(int one, int two, int bits) {
        if (!in(one, 0, 12) || !in(two, 0, 12) || !in(bits, 0, 4095)) return OUTSIDE;
        int old = tolds[one][two];
        tolds[one][two] = bits;
        return old;
    }

    private Machine at(int p, int line, int memory) {
        Machine m = machine(p, memory);
        m.at = line;
        m.end = line == 12 ? 0 : -1;
        return m;
    }

    private boolean has(int bits, int[] one, int[] two) {
        return (bits & ~bitsOf(one, two)) == 0;
    }

    private boolean kept(int p, int q, int i, int j) {
        for (int m = 0; m < 256; m++) {
            for (int n = 0; n < 256; n++) {
                if (!has(tolds[i][j], digits(m), digits(n))) continue;
                Machine one = at(p, i, m);
                Machine two = at(q, j, n);
                int how = i == 12 ? 2 : j == 12 ? 1 : waits[i][j];
                if (how != 2) one.step();
                if (how != 1) two.step();
                if (!has(tolds[one.place()][two.place()], one.memory, two.memory)) return false;
            }
        }
        return true;
    }

    int fails(int saying, int p, int q) {
        if (!known(saying) || !program(p) || !program(q)) return UNKNOWN;
        int[][] stood = walked(saying, p, q)[0];
        for (int i = 0; i <= 12; i++) {
            for (int j = 0; j <= 12; j++) {
                if (stood[i][j] >= 0 && (i != 12 || j != 12) && !kept(p, q, i, j)) return 100 * i + j;
            }
        }
        return NONE;
    }

    // ---- 4

    private boolean holdsQuiet(int saying, int p, int quiet) {
        String[] ahead = ahead(saying);
        String[] behind = behind(saying);
        Machine[] row = all(p, quiet);
        for (int s = 0; s < 256; s++) {
            for (int t = 0; t < 256; t++) {
                if (meant(ahead, s, t) && !comes(behind, row[s], row[t])) return false;
            }
        }
        return true;
    }

    int so(int saying, int p, int what) {
        if (!known(saying) || !program(p)) return UNKNOWN;
        if (!in(what, 0, 1)) return OUTSIDE;
        int shows = 0;
        for (int i = 0; i < programs.get(p).size(); i++) {
            if (programs.get(p).get(i)[0] == 6 && (silent[p] >> i & 1) == 0) shows |= 1 << i;
        }
        if (Integer.bitCount(shows) > 6) return STATE;
        for (int n = 0; n <= 6; n++) {
            for (int bits = 0; bits < 4096; bits++) {
                if ((bits & ~shows) == 0 && Integer.bitCount(bits) == n && holdsQuiet(saying, p, silent[p] | bits)) {
                    return what == 0 ? bits : n;
                }
            }
        }
        return NO;
    }

    int fit(int p, int start, int set, int n, int what) {
        if (!program(p)) return UNKNOWN;
        if (!in(start, 0, 255) || !in(set, 0, 15) || !in(n, 0, 24) || !in(what, 0, 1)) return OUTSIDE;
        List<Integer> seen = machine(p, start).finish().shown;
        int count = 0, first = NONE;
        for (int s = 0; s < 256; s++) {
            boolean fits = true;
            for (int v = 0; v < 4; v++) {
                if ((set >> v & 1) != 0 && digits(s)[v] != digits(start)[v]) fits = false;
            }
            List<Integer> its = machine(p, s).finish().shown;
            if (seen.size() < n) {
                fits = fits && its.equals(seen);
            } else {
                fits = fits && its.size() >= n && its.subList(0, n).equals(seen.subList(0, n));
            }
            if (!fits) continue;
            count++;
            if (first == NONE) first = s;
        }
        return what == 0 ? count : first;
    }

    int far(int p, int x, int y, int d) {
        if (!program(p)) return UNKNOWN;
        if (!in(x, 0, 3) || !in(y, 0, 3) || !in(d, 1, 3)) return OUTSIDE;
        Machine[] row = all(p, 0);
        int most = 0;
        for (int s = 0; s < 256; s++) {
            for (int t = 0; t < 256; t++) {
                boolean near = true;
                for (int v = 0; v < 4; v++) {
                    int apart = Math.abs(digits(s)[v] - digits(t)[v]);
                    near = near && apart <= (v == x ? d : 0);
                }
                if (near) most = Math.max(most, Math.abs(row[s].memory[y] - row[t].memory[y]));
            }
        }
        return most;
    }

    int changed(int p, int q, int what) {
        if (!program(p) || !program(q)) return UNKNOWN;
        if (!in(what, 0, 2)) return OUTSIDE;
        int count = 0, first = NONE, lines = 0;
        for (int s = 0; s < 256; s++) {
            Machine one = machine(p, s).finish();
            Machine two = machine(q, s).finish();
            if (number(one.memory) == number(two.memory) && one.end == two.end && one.shown.equals(two.shown)) continue;
            count++;
            if (first == NONE) first = s;
        }
        for (int i = 0; i < 12; i++) {
            int[] one = i < programs.get(p).size() ? programs.get(p).get(i) : null;
            int[] two = i < programs.get(q).size() ? programs.get(q).get(i) : null;
            if (!Arrays.equals(one, two)) lines |= 1 << i;
        }
        return new int[] {count, first, lines}[what];
    }

    int orders(int p, int q, int memory, int what) {
        if (!program(p) || !program(q)) return UNKNOWN;
        if (!in(memory, 0, 255) || !in(what, 0, 1) && !in(what, 10, 265)) return OUTSIDE;
        TreeSet<List<Integer>> known = new TreeSet<>((x, y) -> Arrays.compare(ints(x), ints(y)));
        List<List<Integer>> open = new ArrayList<>();
        open.add(List.of(programs.get(p).isEmpty() ? 12 : 0, programs.get(q).isEmpty() ? 12 : 0, memory));
        TreeSet<Integer> ends = new TreeSet<>();
        while (!open.isEmpty()) {
            List<Integer> here = open.remove(open.size() - 1);
            if (!known.add(here)) continue;
            int one = here.get(0), two = here.get(1), m = here.get(2);
            if (one == 12 && two == 12) ends.add(m);
            if (one < 12) {
                Machine next = at(p, one, m);
                next.step();
                open.add(List.of(next.place(), two, number(next.memory)));
            }
            if (two < 12) {
                Machine next = at(q, two, m);
                next.step();
                open.add(List.of(one, next.place(), number(next.memory)));
            }
        }
        if (what == 0) return ends.size();
        if (what == 1) return ends.isEmpty() ? NONE : ends.first();
        return ends.contains(what - 10) ? 1 : 0;
    }

    private static int[] ints(List<Integer> row) {
        return new int[] {row.get(0), row.get(1), row.get(2)};
    }

    int told(int what) {
        if (what == 0) return sayings.size();
        if (what == 1) return text.length();
        if (in(what, 10, 13)) return programs.get(what - 10).size();
        if (in(what, 20, 23)) return silent[what - 20];
        return OUTSIDE;
    }
}
