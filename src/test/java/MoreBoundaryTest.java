/** The boundary cases of promises 19 to 24, a test for each sentence that names one. */
public final class MoreBoundaryTest {
    private static final int UNKNOWN = Check.UNKNOWN, OUTSIDE = Check.OUTSIDE, STATE = Check.STATE, NO = Check.NO;
    private static final int NONE = Check.NONE;
    private static final int SET = Check.SET, COPY = Check.COPY, SUM = Check.SUM, LESS = Check.LESS, REST = Check.REST;
    private static final int LEAP = Check.LEAP, SHOW = Check.SHOW, END = Check.END;

    /** Nine LINES behind which a RUN from START 255 alone comes: all are alike, and one more than a is 0. */
    private static final int[] TO_THE_LAST = {LESS, 1, 1, 0, LESS, 2, 2, 0, LESS, 3, 3, 0, LEAP, 1, 12, 0, LEAP, 2, 12, 0,
        LEAP, 3, 12, 0, SET, 1, 1, 0, SUM, 0, 0, 1, LEAP, 0, 12, 0};
    /** Four LINES behind which a RUN from START 0 alone comes. */
    private static final int[] TO_THE_FIRST = {LEAP, 0, 12, 0, LEAP, 1, 12, 0, LEAP, 2, 12, 0, LEAP, 3, 12, 0};

    // ---- 19 so

    private static void numbersOfSo() {
        Check.refused("saying", (x, n) -> x.so(n, 0, 0), UNKNOWN, -1, 2, 5, 6, Integer.MIN_VALUE, Integer.MAX_VALUE);
        TwinRuns y = new TwinRuns();
        for (int i = 0; i < 6; i++) {
            Check.due("not there yet", y.so(i, 0, 0), UNKNOWN);
            Check.saying(y, "a=a:o");
            Check.due("there", y.so(i, 0, 0), 0);
        }
        Check.range("program", (x, n) -> x.so(0, n, 1), 0, 3, UNKNOWN);
        Check.range("what", (x, n) -> x.so(0, 3, n), 0, 1, OUTSIDE);
    }

    /** So many SHOWS of a, SAYING 0 that asks for b and for SHOWN, and SAYING 1 that no one can mend. */
    private static TwinRuns shows(int count) {
        TwinRuns x = Check.many(new TwinRuns(), 0, count, SHOW, 0, 0, 0);
        Check.saying(x, "b=b:o");
        Check.saying(x, "b=b:a=a");
        return x;
    }

    private static void sixLinesOfShowAtMost() {
        for (int count = 0; count <= 12; count++) {
            TwinRuns x = shows(count);
            Check.due(count + " SHOWS", x.so(0, 0, 0), count > 6 ? STATE : (1 << count) - 1);
            Check.due(count + " SHOWS", x.so(0, 0, 1), count > 6 ? STATE : count);
        }
    }

    private static void silentOnesDoNotCount() {
        TwinRuns x = shows(12);
        x.silent(0, 63);
        Check.due("the last six", x.so(0, 0, 0), 4095 - 63);
        Check.due("how many", x.so(0, 0, 1), 6);
        x.silent(0, 31);
        Check.due("seven", x.so(0, 0, 0), STATE);
        x.silent(0, 4095);
        Check.due("none is left", x.so(0, 0, 0), 0);
        Check.due("how many", x.so(0, 0, 1), 0);
        x.silent(0, 4094);
        Check.due("LINE 0 alone", x.so(0, 0, 0), 1);
        x.silent(0, 2047);
        Check.due("LINE 11 alone", x.so(0, 0, 0), 2048);
    }

    private static void otherActsDoNotCount() {
        TwinRuns x = shows(6);
        Check.many(x, 0, 6, COPY, 0, 0, 0);
        Check.due("six SHOWS among twelve LINES", x.so(0, 0, 0), 63);
        x.silent(0, 4032);
        Check.due("SILENT ones of another act", x.so(0, 0, 1), 6);
        x.change(0, 11, SHOW, 0, 0, 0);
        Check.due("a SILENT SHOW", x.so(0, 0, 1), 6);
        x.silent(0, 0);
        Check.due("a seventh one", x.so(0, 0, 0), STATE);
        x.change(0, 0, END, 0, 0, 0);
        Check.due("six that no RUN comes to", x.so(0, 0, 0), 0);
        x.change(0, 10, SHOW, 0, 0, 0);
        Check.due("seven that no RUN comes to", x.so(0, 0, 0), STATE);
    }

    private static void linesOfTheProgramThatIs() {
        TwinRuns x = shows(7);
        x.clear(0);
        Check.due("none", x.so(0, 0, 0), 0);
        Check.many(x, 0, 2, SHOW, 0, 0, 0);
        Check.due("two", x.so(0, 0, 0), 3);
    }

    private static void refusalsOfSoInOrder() {
        Check.refused("saying and what", (x, n) -> x.so(n, 0, 2), UNKNOWN, -1, 2);
        Check.refused("program and what", (x, n) -> x.so(0, n, -1), UNKNOWN, -1, 4);
        TwinRuns x = shows(7);
        Check.due("saying, and STATE", x.so(2, 0, 0), UNKNOWN);
        Check.due("saying, and STATE", x.so(-1, 0, 0), UNKNOWN);
        Check.due("what, and STATE", x.so(0, 0, 2), OUTSIDE);
        Check.due("what, and STATE", x.so(0, 0, -1), OUTSIDE);
        Check.due("STATE, and NO", x.so(1, 0, 0), STATE);
        Check.due("STATE, and NO", x.so(1, 0, 1), STATE);
        x.silent(0, 64);
        Check.due("what, and NO", x.so(1, 0, 2), OUTSIDE);
        Check.due("NO alone", x.so(1, 0, 0), NO);
        Check.due("NO alone", x.so(1, 0, 1), NO);
        Check.due("SILENT ones are as they were", x.told(20), 64);
        Check.due("SHOWN too", x.run(0, 0, 3), 6);
    }

    private static void noIfNoneDoes() {
        TwinRuns x = Check.lines(new TwinRuns(), 0, LEAP, 3, 2, 0, SHOW, 0, 0, 0);
        int ends = Check.saying(x, "a=a:e");
        int steps = Check.saying(x, "a=a:o&t");
        int both = Check.saying(x, "a=a:o&b=b");
        int fine = Check.saying(x, "a=a:o&a=a&e");
        Check.due("ENDS are alike as it is", x.so(ends, 0, 0), 0);
        Check.due("STEPS stay unlike", x.so(steps, 0, 0), NO);
        Check.due("b stays unlike", x.so(both, 0, 1), NO);
        Check.due("LINE 1", x.so(fine, 0, 0), 2);
        x.silent(0, 2);
        Check.due("STEPS stay unlike", x.so(steps, 0, 0), NO);
        Check.due("none beside those that are", x.so(fine, 0, 0), 0);
        int never = Check.saying(x, "a<a&a>a:a#a");
        x.silent(0, 0);
        Check.due("no PAIR is MEANT", x.so(never, 0, 0), 0);
    }

    /** START 0 or START 255 alone shows or is REFUSED, and is the first one or the other one of PAIRS. */
    private static void onePairMustBeMended() {
        int[][] heads = {TO_THE_FIRST, TO_THE_LAST};
        String[][] sayings = {{"d<d:", "d>d:"}, {"d>d:", "d<d:"}};
        for (int i = 0; i < 2; i++) {
            int line = heads[i].length / 4;
            for (String ahead : sayings[i]) {
                TwinRuns x = Check.lines(new TwinRuns(), 0, heads[i]);
                x.line(0, SHOW, 0, 0, 0);
                int o = Check.saying(x, ahead + "o");
                int e = Check.saying(x, ahead + "e");
                Check.due("that SHOW", x.so(o, 0, 0), 1 << line);
                Check.due("ENDS are alike", x.so(e, 0, 0), 0);
                x.change(0, line, REST, 0, 0, 0);
                x.line(0, SHOW, 0, 0, 0);
                Check.due("nothing is shown", x.so(o, 0, 0), 0);
                Check.due("ENDS are not alike", x.so(e, 0, 0), NO);
            }
        }
    }

    private static void fewestThenLeast() {
        // from d 0 it shows b, a, else a, b: LINE 1 or LINE 3 must be SILENT
        TwinRuns x = Check.lines(new TwinRuns(), 0, LEAP, 3, 3, 0, SHOW, 1, 0, 0, LEAP, 3, 12, 0, SHOW, 0, 0, 0, LEAP, 3, 1, 0);
        int s = Check.saying(x, "a=a&b=b:o");
        Check.due("the least of two", x.so(s, 0, 0), 2);
        Check.due("one", x.so(s, 0, 1), 1);
        x.silent(0, 8);
        Check.due("one is SILENT", x.so(s, 0, 0), 0);
        x.silent(0, 2);
        Check.due("the other one is", x.so(s, 0, 0), 0);
        // from d 0 it shows b, b, a, else a, b, b: LINES 1 and 2, or LINE 4
        Check.lines(x, 1, LEAP, 3, 4, 0, SHOW, 1, 0, 0, SHOW, 1, 0, 0, LEAP, 3, 12, 0, SHOW, 0, 0, 0, LEAP, 3, 1, 0);
        Check.due("one is fewer than two lesser ones", x.so(s, 1, 0), 16);
        Check.due("one", x.so(s, 1, 1), 1);
        x.silent(1, 2);
        Check.due("beside LINE 1 it is LINE 2", x.so(s, 1, 0), 4);
    }

    // ---- 20 fit

    private static void numbersOfFit() {
        Check.range("program", (x, n) -> x.fit(n, 0, 0, 0, 0), 0, 3, UNKNOWN);
        Check.range("START", (x, n) -> x.fit(0, n, 0, 0, 0), 0, 255, OUTSIDE);
        Check.range("set", (x, n) -> x.fit(0, 0, n, 0, 0), 0, 15, OUTSIDE);
        Check.range("n", (x, n) -> x.fit(0, 0, 0, n, 0), 0, 24, OUTSIDE);
        Check.range("what", (x, n) -> x.fit(0, 0, 0, 0, n), 0, 1, OUTSIDE);
    }

    private static void refusalsOfFitInOrder() {
        Check.refused("program and START", (x, n) -> x.fit(n, 256, 0, 0, 0), UNKNOWN, -1, 4);
        Check.refused("program and set", (x, n) -> x.fit(n, 0, 16, 0, 0), UNKNOWN, -1, 4);
        Check.refused("program and n", (x, n) -> x.fit(n, 0, 0, 25, 0), UNKNOWN, -1, 4);
        Check.refused("program and what", (x, n) -> x.fit(n, 0, 0, 0, 2), UNKNOWN, -1, 4);
    }

    private static void alikeInVariablesOfASet() {
        TwinRuns x = new TwinRuns();
        int start = Check.mem(1, 2, 3, 1);
        for (int set = 0; set < 16; set++) {
            int first = 0;
            int[] worth = {64, 16, 4, 1};
            for (int v = 0; v < 4; v++) {
                first += (set >> v & 1) * worth[v] * Check.digit(start, v);
            }
            Check.due("how many by " + set, x.fit(0, start, set, 0, 0), 256 >> (2 * Integer.bitCount(set)));
            Check.due("the first by " + set, x.fit(0, start, set, 0, 1), first);
            Check.due("nothing shown is alike", x.fit(0, start, set, 24, 1), first);
        }
    }

    /** From a 0 it shows b; from another one b and b. */
    private static void beginByShowingTheSame() {
        TwinRuns x = Check.lines(new TwinRuns(), 0, SHOW, 1, 0, 0, LEAP, 0, 3, 0, END, 0, 0, 0, SHOW, 1, 0, 0);
        int one = Check.mem(0, 2, 0, 0);
        int two = Check.mem(1, 2, 0, 0);
        Check.due("n 0: all", x.fit(0, one, 0, 0, 0), 256);
        Check.due("n 0: the first", x.fit(0, two, 0, 0, 1), 0);
        Check.due("n 1 of 1: b is 2", x.fit(0, one, 0, 1, 0), 64);
        Check.due("n 1 of 2: b is 2", x.fit(0, two, 0, 1, 0), 64);
        Check.due("n 2 of 1: just these", x.fit(0, one, 0, 2, 0), 16);
        Check.due("the first", x.fit(0, one, 0, 2, 1), one);
        Check.due("n 2 of 2: those that show fewer do not fit", x.fit(0, two, 0, 2, 0), 48);
        Check.due("the first", x.fit(0, two, 0, 2, 1), two);
        Check.due("n 3 of 2: just these", x.fit(0, two, 0, 3, 0), 48);
        Check.due("n 24 of 1", x.fit(0, one, 0, 24, 0), 16);
        Check.due("n 24 of 2", x.fit(0, two, 0, 24, 0), 48);
        x.silent(0, 1);
        Check.due("nothing shown by a of 0, n 1", x.fit(0, one, 0, 1, 0), 64);
        Check.due("the first", x.fit(0, one, 0, 1, 1), 0);
        Check.due("n 1 of the others", x.fit(0, two, 0, 1, 0), 48);
    }

    private static void longShowingsFit() {
        // 22 values: eleven of d, twice; a RUN from d 0 shows eleven
        TwinRuns x = Check.many(new TwinRuns(), 0, 11, SHOW, 3, 0, 0);
        x.line(0, LEAP, 3, 0, 0);
        for (int n = 0; n <= 24; n++) {
            Check.due("22 values, n " + n, x.fit(0, 3, 0, n, 0), n == 0 ? 256 : 64);
            Check.due("11 values, n " + n, x.fit(0, 0, 0, n, 0), n == 0 ? 256 : 64);
        }
        // the last SHOW alone tells a
        x.change(0, 10, SHOW, 0, 0, 0);
        Check.due("n 10", x.fit(0, 3, 0, 10, 0), 64);
        Check.due("n 11", x.fit(0, 3, 0, 11, 0), 16);
    }

    private static void onlyOneFits() {
        TwinRuns x = Check.lines(new TwinRuns(), 0, TO_THE_LAST);
        x.line(0, SHOW, 0, 0, 0);
        Check.due("START 255 alone shows", x.fit(0, 255, 0, 1, 0), 1);
        Check.due("it is the first", x.fit(0, 255, 0, 1, 1), 255);
        Check.due("all others show nothing", x.fit(0, 0, 0, 1, 0), 255);
        Check.due("the first of them", x.fit(0, 254, 0, 1, 1), 0);
        Check.due("alike in all", x.fit(0, 254, 15, 1, 1), 254);
    }

    // ---- 21 far

    private static void numbersOfFar() {
        Check.range("program", (x, n) -> x.far(n, 0, 0, 1), 0, 3, UNKNOWN);
        Check.range("x", (x, n) -> x.far(0, n, 0, 1), 0, 3, OUTSIDE);
        Check.range("y", (x, n) -> x.far(0, 0, n, 1), 0, 3, OUTSIDE);
        Check.range("d", (x, n) -> x.far(0, 0, 0, n), 1, 3, OUTSIDE);
    }

    private static void refusalsOfFarInOrder() {
        Check.refused("program and x", (x, n) -> x.far(n, 4, 0, 1), UNKNOWN, -1, 4);
        Check.refused("program and y", (x, n) -> x.far(n, 0, -1, 1), UNKNOWN, -1, 4);
        Check.refused("program and d", (x, n) -> x.far(n, 0, 0, 0), UNKNOWN, -1, 4);
        Check.refused("program and d", (x, n) -> x.far(n, 0, 0, 4), UNKNOWN, -1, 4);
    }

    private static void byThatMuchAtMost() {
        TwinRuns x = new TwinRuns();
        for (int v = 0; v < 4; v++) {
            for (int y = 0; y < 4; y++) {
                for (int d = 1; d <= 3; d++) {
                    Check.due(v + " to " + y + " by " + d, x.far(0, v, y, d), v == y ? d : 0);
                }
            }
        }
        // a is what is left of b by 2: 0, 1, 0, 1
        Check.lines(x, 1, SET, 0, 2, 0, REST, 0, 1, 0);
        Check.due("at most, so 1 counts too", x.far(1, 1, 0, 2), 1);
        Check.due("at most, so 1 counts too", x.far(1, 1, 0, 3), 1);
        // d of 1 leaps to where a is set: 0 and 1 are the only ones that part
        Check.lines(x, 2, SET, 0, 0, 0, LEAP, 3, 3, 0, END, 0, 0, 0, SET, 0, 3, 0);
        Check.due("1 is enough", x.far(2, 3, 0, 1), 3);
        Check.due("3 is as far", x.far(2, 3, 0, 3), 3);
    }

    private static void aDifferenceGoesNotRound() {
        TwinRuns x = Check.lines(new TwinRuns(), 0, SUM, 0, 0, 1);
        Check.due("3 and 0 are 3 apart", x.far(0, 1, 0, 1), 3);
        Check.lines(x, 1, SUM, 0, 0, 0);
        Check.due("twice 1 is 2 apart", x.far(1, 0, 0, 1), 2);
        Check.due("0, 2, 0, 2", x.far(1, 0, 0, 3), 2);
        Check.lines(x, 2, LESS, 0, 1, 0);
        Check.due("less in the one is as far as greater", x.far(2, 0, 0, 1), 3);
        // a of 3 becomes 1 and 2 becomes 2: the greater START comes to the lesser end
        Check.lines(x, 3, SET, 1, 0, 0, LESS, 0, 1, 0, LEAP, 0, 4, 0, SET, 0, 3, 0);
        Check.due("0, 1, 2, 3 become 3, 3, 2, 1", x.far(3, 0, 0, 1), 1);
        Check.due("3 and 1", x.far(3, 0, 0, 2), 2);
        Check.due("3 and 1", x.far(3, 0, 0, 3), 2);
    }

    private static void allEndsAreFar() {
        TwinRuns x = Check.lines(new TwinRuns(), 0, REST, 0, 0, 1);
        Check.due("REFUSED with 3, or left with 0", x.far(0, 1, 0, 1), 3);
        // from d 0 it ends; else it goes round and is SPENT with a 3
        Check.lines(x, 1, SET, 0, 0, 0, LEAP, 3, 3, 0, END, 0, 0, 0, SET, 0, 3, 0, LEAP, 3, 4, 0);
        Check.due("SPENT", x.run(1, 1, 0), 2);
        Check.due("SPENT with 3, or ENDED with 0", x.far(1, 3, 0, 1), 3);
        Check.due("another VARIABLE", x.far(1, 2, 0, 3), 0);
    }

    /** START 0 or START 255 alone comes to another end. */
    private static void twoRunsAreFar() {
        TwinRuns x = Check.lines(new TwinRuns(), 0, TO_THE_FIRST);
        x.line(0, SET, 0, 3, 0);
        for (int v = 1; v < 4; v++) {
            Check.due("0 and 3 by VARIABLE " + v, x.far(0, v, 0, 1), 3);
        }
        Check.due("a of 0 becomes 3, 1 and 2 stay", x.far(0, 0, 0, 1), 2);
        // c is left as c less a but from START 255, so b alone makes no other difference
        Check.lines(x, 1, TO_THE_LAST);
        Check.lines(x, 1, SET, 2, 3, 0);
        Check.due("3 from START 255, 0 from those beside it", x.far(1, 1, 2, 1), 3);
    }

    // ---- 22 changed

    private static void numbersOfChanged() {
        Check.range("p", (x, n) -> x.changed(n, 0, 0), 0, 3, UNKNOWN);
        Check.range("q", (x, n) -> x.changed(0, n, 0), 0, 3, UNKNOWN);
        Check.range("what", (x, n) -> x.changed(0, 1, n), 0, 2, OUTSIDE);
    }

    private static void refusalsOfChangedInOrder() {
        for (int bad : new int[] {-1, 3}) {
            Check.refused("p and what", (x, n) -> x.changed(n, 0, bad), UNKNOWN, -1, 4);
            Check.refused("q and what", (x, n) -> x.changed(0, n, bad), UNKNOWN, -1, 4);
        }
    }

    private static void noneIsChanged() {
        TwinRuns x = Check.many(new TwinRuns(), 0, 3, COPY, 0, 0, 0);
        Check.lines(x, 1, END, 0, 0, 0);
        Check.due("how many", x.changed(0, 1, 0), 0);
        Check.due("no first one", x.changed(0, 1, 1), NONE);
        Check.due("LINES", x.changed(0, 1, 2), 7);
        Check.due("empty ones", x.changed(2, 3, 0), 0);
        Check.due("empty ones", x.changed(2, 3, 1), NONE);
        Check.due("empty ones", x.changed(2, 3, 2), 0);
        Check.due("with itself", x.changed(0, 0, 0), 0);
        Check.due("with itself", x.changed(0, 0, 2), 0);
    }

    private static void onlyOneIsChanged() {
        TwinRuns x = Check.lines(new TwinRuns(), 0, TO_THE_LAST);
        Check.lines(x, 1, TO_THE_LAST);
        x.line(1, REST, 0, 0, 0);
        Check.due("START 255 alone", x.changed(0, 1, 0), 1);
        Check.due("the first one", x.changed(0, 1, 1), 255);
        Check.due("LINE 9", x.changed(0, 1, 2), 512);
        Check.lines(x, 2, TO_THE_FIRST);
        x.line(2, SHOW, 0, 0, 0);
        Check.due("START 0 alone", x.changed(2, 3, 0), 1);
        Check.due("the first one is 0, not NONE", x.changed(2, 3, 1), 0);
    }

    private static void memoryEndAndShownAlone() {
        TwinRuns x = Check.lines(new TwinRuns(), 0, SET, 0, 0, 0);
        Check.due("MEMORY", x.changed(0, 3, 0), 192);
        Check.due("the first one", x.changed(0, 3, 1), 64);
        Check.lines(x, 1, REST, 0, 0, 0);
        Check.due("END by a of 0, MEMORY by 2 and 3 and 1", x.changed(1, 3, 0), 256);
        x.change(1, 0, REST, 1, 1, 0);
        Check.due("END by a of 0, MEMORY where b is not left", x.changed(1, 3, 0), 64 + 48 + 32 + 16);
        Check.lines(x, 2, SHOW, 0, 0, 0);
        Check.due("SHOWN", x.changed(2, 3, 0), 256);
        x.silent(2, 1);
        Check.due("nothing SHOWN", x.changed(2, 3, 0), 0);
        x.clear(1);
        Check.lines(x, 1, LEAP, 3, 0, 0);
        Check.due("SPENT", x.changed(1, 3, 0), 192);
        Check.due("the first one", x.changed(1, 3, 1), 1);
    }

    private static void shownInOtherOrder() {
        TwinRuns x = Check.lines(new TwinRuns(), 0, SHOW, 0, 0, 0, SHOW, 1, 0, 0);
        Check.lines(x, 1, SHOW, 1, 0, 0, SHOW, 0, 0, 0);
        Check.due("a and b unlike", x.changed(0, 1, 0), 192);
        Check.due("the first one", x.changed(0, 1, 1), 16);
        Check.lines(x, 2, SHOW, 0, 0, 0);
        Check.due("fewer", x.changed(0, 2, 0), 256);
        Check.due("the first one: 0, and 0, 0", x.changed(0, 2, 1), 0);
    }

    private static void linesThatAreUnlike() {
        for (int line = 0; line < 12; line++) {
            TwinRuns x = Check.many(new TwinRuns(), 0, 12, SUM, 0, 0, 0);
            Check.many(x, 1, 12, SUM, 0, 0, 0);
            Check.many(x, 2, line, SUM, 0, 0, 0);
            Check.due("alike", x.changed(0, 1, 2), 0);
            x.change(1, line, LESS, 0, 0, 0);
            Check.due("act", x.changed(0, 1, 2), 1 << line);
            x.change(1, line, SUM, 1, 0, 0);
            Check.due("a", x.changed(0, 1, 2), 1 << line);
            x.change(1, line, SUM, 0, 1, 0);
            Check.due("b", x.changed(0, 1, 2), 1 << line);
            x.change(1, line, SUM, 0, 0, 1);
            Check.due("c", x.changed(0, 1, 2), 1 << line);
            Check.due("LINES that the other one has not", x.changed(0, 2, 2), 4096 - (1 << line));
            Check.due("and the other way", x.changed(2, 0, 2), 4096 - (1 << line));
            x.silent(0, 1 << line);
            Check.due("SILENT is no part of a LINE", x.changed(0, 2, 2), 4096 - (1 << line));
        }
    }

    private static void linesThatAreGoneAreUnlike() {
        TwinRuns x = Check.many(new TwinRuns(), 0, 12, SHOW, 0, 0, 0);
        Check.many(x, 1, 12, SHOW, 0, 0, 0);
        x.clear(1);
        Check.due("all", x.changed(0, 1, 2), 4095);
        x.line(1, SHOW, 0, 0, 0);
        Check.due("all but LINE 0", x.changed(0, 1, 2), 4094);
    }

    // ---- 23 orders

    private static void numbersOfOrders() {
        Check.range("p", (x, n) -> x.orders(n, 0, 0, 0), 0, 3, UNKNOWN);
        Check.range("q", (x, n) -> x.orders(0, n, 0, 0), 0, 3, UNKNOWN);
        Check.range("MEMORY", (x, n) -> x.orders(0, 1, n, 0), 0, 255, OUTSIDE);
        Check.refused("what", (x, n) -> x.orders(0, 1, 0, n), OUTSIDE, -1, 2, 3, 4, 5, 6, 7, 8, 9, 266, 267,
            Integer.MIN_VALUE, Integer.MAX_VALUE);
        TwinRuns x = new TwinRuns();
        Check.due("what 0", x.orders(0, 1, 0, 0), 1);
        Check.due("what 1", x.orders(0, 1, 0, 1), 0);
        Check.due("what 10", x.orders(0, 1, 0, 10), 1);
        Check.due("what 11", x.orders(0, 1, 0, 11), 0);
        Check.due("what 265", x.orders(0, 1, 0, 265), 0);
        Check.due("what 265 from 255", x.orders(0, 1, 255, 265), 1);
        Check.due("what 10 from 255", x.orders(0, 1, 255, 10), 0);
    }

    private static void refusalsOfOrdersInOrder() {
        for (int bad : new int[] {-1, 256}) {
            Check.refused("p and MEMORY", (x, n) -> x.orders(n, 0, bad, 0), UNKNOWN, -1, 4);
            Check.refused("q and MEMORY", (x, n) -> x.orders(0, n, bad, 0), UNKNOWN, -1, 4);
        }
        for (int bad : new int[] {-1, 2, 9, 266}) {
            Check.refused("p and what", (x, n) -> x.orders(n, 0, 0, bad), UNKNOWN, -1, 4);
            Check.refused("q and what", (x, n) -> x.orders(0, n, 0, bad), UNKNOWN, -1, 4);
        }
    }

    private static void ordersOfEmptyPrograms() {
        TwinRuns x = Check.lines(new TwinRuns(), 2, SET, 3, 3, 0);
        for (int memory = 0; memory < 256; memory += 51) {
            Check.due("how many", x.orders(0, 1, memory, 0), 1);
            Check.due("the least", x.orders(0, 1, memory, 1), memory);
            Check.due("one alone", x.orders(0, 2, memory, 1), memory / 4 * 4 + 3);
            Check.due("the other alone", x.orders(2, 0, memory, 1), memory / 4 * 4 + 3);
        }
    }

    private static void allOrdersCount() {
        TwinRuns x = Check.lines(new TwinRuns(), 0, SET, 0, 1, 0, SET, 1, 1, 0);
        Check.lines(x, 1, SET, 0, 2, 0, SET, 1, 2, 0);
        for (int a = 0; a < 4; a++) {
            for (int b = 0; b < 4; b++) {
                boolean can = (a == 1 || a == 2) && (b == 1 || b == 2);
                Check.due(a + ", " + b, x.orders(0, 1, 0, 10 + Check.mem(a, b, 0, 0)), can ? 1 : 0);
            }
        }
        Check.due("how many", x.orders(0, 1, 0, 0), 4);
        Check.due("the least", x.orders(0, 1, 0, 1), Check.mem(1, 1, 0, 0));
        Check.due("a PROGRAM with itself", x.orders(0, 0, 0, 0), 1);
        Check.lines(x, 2, SUM, 0, 0, 0, SUM, 0, 0, 1);
        // a 0, b 1: both by STEPS of their own: 0 0 1 2, or 0 1 2 3
        Check.due("with itself, each at its own LINE", x.orders(2, 2, Check.mem(0, 1, 0, 0), 0), 2);
        Check.due("0, 0, 1, 2", x.orders(2, 2, Check.mem(0, 1, 0, 0), 10 + Check.mem(2, 1, 0, 0)), 1);
        Check.due("0, 1, 2, 3", x.orders(2, 2, Check.mem(0, 1, 0, 0), 10 + Check.mem(3, 1, 0, 0)), 1);
    }

    private static void endsOfOrders() {
        TwinRuns x = Check.lines(new TwinRuns(), 0, END, 0, 0, 0, SET, 0, 3, 0);
        Check.due("by END", x.orders(0, 3, 5, 1), 5);
        Check.lines(x, 1, REST, 0, 0, 1, SET, 0, 3, 0);
        Check.due("REFUSED", x.orders(1, 3, Check.mem(2, 0, 0, 0), 1), Check.mem(2, 0, 0, 0));
        Check.due("not REFUSED", x.orders(1, 3, Check.mem(2, 1, 0, 0), 1), Check.mem(3, 1, 0, 0));
        Check.lines(x, 2, LEAP, 0, 9, 0, SET, 0, 3, 0);
        Check.due("behind the last LINE", x.orders(2, 3, Check.mem(2, 1, 0, 0), 1), Check.mem(2, 1, 0, 0));
        Check.due("no leap", x.orders(2, 3, Check.mem(0, 1, 0, 0), 1), Check.mem(3, 1, 0, 0));
        x.line(3, SET, 1, 2, 0);
        Check.due("b is set ahead of REST, or behind it", x.orders(1, 3, Check.mem(2, 0, 0, 0), 0), 2);
        Check.due("REFUSED", x.orders(1, 3, Check.mem(2, 0, 0, 0), 1), Check.mem(2, 2, 0, 0));
        Check.due("not REFUSED", x.orders(1, 3, Check.mem(2, 0, 0, 0), 10 + Check.mem(3, 2, 0, 0)), 1);
    }

    private static void thoseThatNeverEndDoNotCount() {
        TwinRuns x = Check.lines(new TwinRuns(), 0, LEAP, 3, 0, 0);
        Check.due("how many", x.orders(0, 1, 1, 0), 0);
        Check.due("no least one", x.orders(0, 1, 1, 1), NONE);
        Check.due("not that one", x.orders(0, 1, 1, 11), 0);
        Check.due("the other way", x.orders(1, 0, 1, 1), NONE);
        Check.due("with itself", x.orders(0, 0, 1, 1), NONE);
        Check.due("d of 0 ends", x.orders(0, 0, 0, 1), 0);
        Check.lines(x, 1, SET, 3, 0, 0);
        Check.due("the other one ends it", x.orders(0, 1, 1, 0), 1);
        Check.due("by d of 0", x.orders(0, 1, 1, 1), 0);
        Check.lines(x, 2, SET, 3, 1, 0);
        // the LEAP is done ahead of the SET, or never ends
        Check.due("only what ends counts", x.orders(0, 2, 0, 0), 1);
        Check.due("d of 1", x.orders(0, 2, 0, 1), 1);
    }

    private static void ordersCountNoSteps() {
        // three rounds of twelve LINES are 36 STEPS
        TwinRuns x = Check.lines(new TwinRuns(), 0, LESS, 3, 3, 2);
        Check.many(x, 0, 10, COPY, 0, 0, 0);
        x.line(0, LEAP, 3, 0, 0);
        int start = Check.mem(0, 0, 1, 3);
        Check.due("SPENT as a RUN", x.run(0, start, 0), 2);
        Check.due("it ends", x.orders(0, 1, start, 1), Check.mem(0, 0, 1, 0));
        Check.due("with itself", x.orders(0, 0, start, 10 + Check.mem(0, 0, 1, 0)), 1);
    }

    /** Each VARIABLE is 1 by the one or 2 by the other, whichever comes later. */
    private static void ordersFindsManyMemories() {
        TwinRuns x = new TwinRuns();
        for (int v = 0; v < 4; v++) {
            x.line(0, SET, v, 1, 0);
            x.line(1, SET, v, 2, 0);
            x.line(2, SET, 3 - v, 2, 0);
        }
        Check.due("in the same order: any of them", x.orders(0, 1, 255, 0), 16);
        Check.due("the least", x.orders(0, 1, 255, 1), Check.mem(1, 1, 1, 1));
        Check.due("against each other: the first ones by 2, the last ones by 1", x.orders(0, 2, 255, 0), 5);
        for (int memory = 0; memory < 256; memory++) {
            boolean can = true;
            for (int v = 0; v < 4; v++) {
                can = can && (Check.digit(memory, v) == 1 || Check.digit(memory, v) == 2);
            }
            Check.due("memory " + memory, x.orders(0, 1, 255, 10 + memory), can ? 1 : 0);
        }
        for (int memory : new int[] {Check.mem(1, 1, 1, 1), Check.mem(2, 1, 1, 1), Check.mem(2, 2, 2, 1), Check.mem(2, 2, 2, 2)}) {
            Check.due("memory " + memory, x.orders(0, 2, 0, 10 + memory), 1);
        }
        Check.due("1 ahead of 2", x.orders(0, 2, 0, 10 + Check.mem(1, 2, 2, 2)), 0);
    }

    /** The one counts a up until the other one takes d away: a goes round. */
    private static void ordersGoRound() {
        TwinRuns x = Check.lines(new TwinRuns(), 0, SUM, 0, 0, 3, LEAP, 3, 0, 0);
        Check.lines(x, 1, SET, 3, 0, 0);
        int memory = Check.mem(2, 1, 3, 1);
        Check.due("how many", x.orders(0, 1, memory, 0), 4);
        Check.due("the least", x.orders(0, 1, memory, 1), Check.mem(0, 1, 3, 0));
        for (int a = 0; a < 4; a++) {
            Check.due("a of " + a, x.orders(0, 1, memory, 10 + Check.mem(a, 1, 3, 0)), 1);
            Check.due("d is not left", x.orders(0, 1, memory, 10 + Check.mem(a, 1, 3, 1)), 0);
        }
    }

    private static TwinRuns fourPrograms() {
        TwinRuns x = Check.lines(new TwinRuns(), 1, SET, 3, 1, 0);
        Check.lines(x, 2, SUM, 3, 3, 3);
        Check.lines(x, 3, SET, 0, 1, 0, COPY, 1, 3, 0);
        return x;
    }

    private static void oneMeetingBehindAnother() {
        Check.anyOrder(3, MoreBoundaryTest::fourPrograms, (x, n, p, q) -> x.orders(p, q, n, 0) * 1000 + x.orders(p, q, n, 1));
        Check.due("doubled twice", fourPrograms().orders(2, 2, 1, 1), 0);
        Check.due("2 by SUM and SET, or 1 by SET behind SUM", fourPrograms().orders(1, 2, 0, 0), 2);
    }

    // ---- 24 told

    private static void numbersOfTold() {
        Check.refused("what", (x, n) -> x.told(n), OUTSIDE, -1, 2, 3, 9, 14, 15, 19, 24, 25, 30, 100, Integer.MIN_VALUE,
            Integer.MIN_VALUE + 10, Integer.MIN_VALUE + 20, Integer.MAX_VALUE);
        TwinRuns x = Check.rich();
        int[] due = {5, 11, 1, 0};
        for (int p = 0; p < 4; p++) {
            Check.due("LINES of " + p, x.told(10 + p), due[p]);
            x.silent(p, 1000 + p);
        }
        for (int p = 0; p < 4; p++) {
            Check.due("SILENT ones of " + p, x.told(20 + p), 1000 + p);
        }
        Check.due("SAYINGS", x.told(0), 2);
        Check.due("signs", x.told(1), 5);
    }

    private static void toldOfEmptyAndFull() {
        TwinRuns x = new TwinRuns();
        for (int what : new int[] {0, 1, 10, 11, 12, 13, 20, 21, 22, 23}) {
            Check.due("at first " + what, x.told(what), 0);
        }
        for (int p = 0; p < 4; p++) {
            Check.many(x, p, 12, END, 0, 0, 0);
            x.silent(p, 4095);
            Check.due("LINES", x.told(10 + p), 12);
            Check.due("SILENT ones", x.told(20 + p), 4095);
        }
        for (int i = 1; i <= 6; i++) {
            Check.saying(x, "a=a:e");
            Check.due("SAYINGS", x.told(0), i);
        }
        for (int i = 1; i <= 40; i++) {
            x.say('a');
            Check.due("signs", x.told(1), i);
        }
    }

    private static void tellSilence() {
        Check.sentence("19: no such SAYING, PROGRAM; what 0, 1", MoreBoundaryTest::numbersOfSo);
        Check.sentence("19: 6 of them at most", MoreBoundaryTest::sixLinesOfShowAtMost);
        Check.sentence("19: LINES of SHOW that are not SILENT", MoreBoundaryTest::silentOnesDoNotCount);
        Check.sentence("19: LINES of SHOW", MoreBoundaryTest::otherActsDoNotCount);
        Check.sentence("19: of a PROGRAM as it is", MoreBoundaryTest::linesOfTheProgramThatIs);
        Check.sentence("19: the first refusal that fits", MoreBoundaryTest::refusalsOfSoInOrder);
        Check.sentence("19: NO: none does", MoreBoundaryTest::noIfNoneDoes);
        Check.sentence("19: so that no PAIR is BROKEN", MoreBoundaryTest::onePairMustBeMended);
        Check.sentence("19: the fewest, of several the least", MoreBoundaryTest::fewestThenLeast);
        Check.sentence("20: START, set, n 0 to 24, what", MoreBoundaryTest::numbersOfFit);
        Check.sentence("20: the first refusal that fits", MoreBoundaryTest::refusalsOfFitInOrder);
        Check.sentence("20: VARIABLES of a set", MoreBoundaryTest::alikeInVariablesOfASet);
        Check.sentence("20: of all, if fewer were shown", MoreBoundaryTest::beginByShowingTheSame);
        Check.sentence("20: n 0 to 24 of many", MoreBoundaryTest::longShowingsFit);
        Check.sentence("20: the first one", MoreBoundaryTest::onlyOneFits);
        Check.sentence("21: no such PROGRAM; VARIABLES; d 1 to 3", MoreBoundaryTest::numbersOfFar);
        Check.sentence("21: the first refusal that fits", MoreBoundaryTest::refusalsOfFarInOrder);
        Check.sentence("21: by d there at most", MoreBoundaryTest::byThatMuchAtMost);
        Check.sentence("21: the greatest difference", MoreBoundaryTest::aDifferenceGoesNotRound);
        Check.sentence("21: as they end", MoreBoundaryTest::allEndsAreFar);
    }

    private static void tellVersionsAndOrders() {
        Check.sentence("21: of two RUNS", MoreBoundaryTest::twoRunsAreFar);
        Check.sentence("22: no such PROGRAM; what 0 to 2", MoreBoundaryTest::numbersOfChanged);
        Check.sentence("22: the first refusal that fits", MoreBoundaryTest::refusalsOfChangedInOrder);
        Check.sentence("22: NONE", MoreBoundaryTest::noneIsChanged);
        Check.sentence("22: the first one", MoreBoundaryTest::onlyOneIsChanged);
        Check.sentence("22: MEMORY, END, SHOWN", MoreBoundaryTest::memoryEndAndShownAlone);
        Check.sentence("22: SHOWN is a row", MoreBoundaryTest::shownInOtherOrder);
        Check.sentence("22: LINES that are unlike, as bits", MoreBoundaryTest::linesThatAreUnlike);
        Check.sentence("22: LINES that are gone", MoreBoundaryTest::linesThatAreGoneAreUnlike);
        Check.sentence("23: MEMORY 0 to 255; 10 and it", MoreBoundaryTest::numbersOfOrders);
        Check.sentence("23: the first refusal that fits", MoreBoundaryTest::refusalsOfOrdersInOrder);
        Check.sentence("23: PROGRAMS without LINES", MoreBoundaryTest::ordersOfEmptyPrograms);
        Check.sentence("23: whatever the order", MoreBoundaryTest::allOrdersCount);
        Check.sentence("23: by END, behind the last LINE, REFUSED", MoreBoundaryTest::endsOfOrders);
        Check.sentence("23: those that never end do not count", MoreBoundaryTest::thoseThatNeverEndDoNotCount);
        Check.sentence("23: more than 24 STEPS", MoreBoundaryTest::ordersCountNoSteps);
        Check.sentence("23: MEMORIES that can be there", MoreBoundaryTest::ordersFindsManyMemories);
        Check.sentence("23: sums go round", MoreBoundaryTest::ordersGoRound);
        Check.sentence("23: of two PROGRAMS from a MEMORY", MoreBoundaryTest::oneMeetingBehindAnother);
        Check.sentence("24: 0, 1, 10 to 13, 20 to 23", MoreBoundaryTest::numbersOfTold);
        Check.sentence("24: empty and full", MoreBoundaryTest::toldOfEmptyAndFull);
    }

    public static void main(String[] args) {
        tellSilence();
        tellVersionsAndOrders();
        Check.end("MoreBoundaryTest");
    }
}
