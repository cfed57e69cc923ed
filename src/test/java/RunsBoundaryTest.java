/** The boundary cases of 'Terms' and of promises 1 to 6, a test for each sentence that names one. */
public final class RunsBoundaryTest {
    private static final int UNKNOWN = Check.UNKNOWN, OUTSIDE = Check.OUTSIDE, FULL = Check.FULL, NO = Check.NO;
    private static final int NONE = Check.NONE;
    private static final int SET = Check.SET, COPY = Check.COPY, SUM = Check.SUM, LESS = Check.LESS, REST = Check.REST;
    private static final int LEAP = Check.LEAP, SHOW = Check.SHOW, END = Check.END;

    /** The greatest a, b and c of each act; the least ones are 0. */
    private static final int[][] TOPS = {{3, 3, 0}, {3, 3, 0}, {3, 3, 3}, {3, 3, 3}, {3, 3, 3}, {3, 12, 0}, {3, 0, 0},
        {0, 0, 0}};

    // ---- terms

    private static void constants() {
        Check.due("UNKNOWN", TwinRuns.UNKNOWN, -1);
        Check.due("OUTSIDE", TwinRuns.OUTSIDE, -2);
        Check.due("STATE", TwinRuns.STATE, -3);
        Check.due("FULL", TwinRuns.FULL, -4);
        Check.due("NO", TwinRuns.NO, -5);
        Check.due("NONE", TwinRuns.NONE, -6);
    }

    private static void fiveHundredAndTwelveCalls() {
        TwinRuns x = new TwinRuns();
        // eight calls, 502 that tell one LINE anew and run it, and two more
        x.line(0, SET, 0, 0, 0);
        x.line(1, SHOW, 0, 0, 0);
        Check.saying(x, "a=b:e");
        for (int i = 0; i < 251; i++) {
            Check.due("call " + (9 + 2 * i), x.change(0, 0, SET, i % 4, i / 4 % 4, 0), SET);
            Check.due("call " + (10 + 2 * i), Check.digit(x.run(0, 0, 1), i % 4), i / 4 % 4);
        }
        Check.due("call 511", x.holds(0, 0, 1, 2), 256 * 64);
        Check.due("call 512", x.told(11), 1);
    }

    // ---- 1 a new object

    private static void noLinesAtFirst() {
        for (int p = 0; p < 4; p++) {
            TwinRuns x = new TwinRuns();
            Check.due("LINES", x.told(10 + p), 0);
            Check.due("no LINE 0", x.change(p, 0, END, 0, 0, 0), UNKNOWN);
            Check.due("none go", x.clear(p), 0);
            Check.due("END", x.run(p, 200, 0), 0);
            Check.due("MEMORY", x.run(p, 200, 1), 200);
            Check.due("STEPS", x.run(p, 200, 2), 0);
            Check.due("SHOWN", x.run(p, 200, 3), 0);
            Check.due("the first value", x.run(p, 200, 10), NONE);
            Check.due("the first LINE", x.line(p, END, 0, 0, 0), 0);
        }
    }

    private static void noneSilentAtFirst() {
        TwinRuns x = new TwinRuns();
        for (int p = 0; p < 4; p++) {
            Check.due("told", x.told(20 + p), 0);
            Check.due("silent", x.silent(p, 0), 0);
        }
    }

    private static void noSayingsAtFirst() {
        TwinRuns x = new TwinRuns();
        Check.due("SAYINGS", x.told(0), 0);
        Check.due("pair", x.pair(0, 0, 0, 0, 0, 0), UNKNOWN);
        Check.due("holds", x.holds(0, 0, 0, 0), UNKNOWN);
        Check.due("walk", x.walk(0, 0, 0, 0), UNKNOWN);
        Check.due("shape", x.shape(0, 0, 0, 0, 0), UNKNOWN);
        Check.due("fails", x.fails(0, 0, 0), UNKNOWN);
        Check.due("so", x.so(0, 0, 0), UNKNOWN);
        Check.due("signs", x.told(1), 0);
        Check.due("of no signs", x.saying(), NO);
        Check.due("the first", Check.saying(x, "a=a:e"), 0);
    }

    private static void allWaitsAreNought() {
        TwinRuns x = new TwinRuns();
        for (int place = 0; place < 144; place++) {
            Check.due("at " + place / 12 + ", " + place % 12, x.wait(place / 12, place % 12, 0), 0);
        }
    }

    private static void allShapesAreToldAtFirst() {
        TwinRuns x = new TwinRuns();
        for (int place = 0; place < 169; place++) {
            Check.due("at " + place / 13 + ", " + place % 13, x.tell(place / 13, place % 13, 4095), 4095);
        }
    }

    private static void newObjectsShareNothing() {
        TwinRuns old = Check.rich();
        TwinRuns x = new TwinRuns();
        Check.due("LINES", x.told(10), 0);
        Check.due("SAYINGS", x.told(0), 0);
        Check.due("signs", x.told(1), 0);
        Check.due("WAITS", x.wait(0, 0, 2), 0);
        Check.due("TOLD SHAPES", x.tell(0, 0, 9), 4095);
        Check.due("LINES of the old one", old.told(10), 5);
        Check.due("WAITS of the old one", old.wait(0, 0, 0), 1);
        Check.due("TOLD SHAPES of the old one", old.tell(0, 0, 0), 0);
    }

    // ---- 2 line

    private static void numberedFromNoughtOn() {
        for (int p = 0; p < 4; p++) {
            TwinRuns x = new TwinRuns();
            for (int i = 0; i < 12; i++) {
                Check.due("LINE of " + p, x.line(p, SHOW, 0, 0, 0), i);
                Check.due("LINES of " + p, x.told(10 + p), i + 1);
            }
        }
    }

    private static void twelveLinesAtMostEach() {
        TwinRuns x = new TwinRuns();
        for (int p = 0; p < 4; p++) {
            Check.many(x, p, 11, SHOW, 0, 0, 0);
            Check.due("the twelfth", x.line(p, SET, 0, 1, 0), 11);
            Check.due("the thirteenth", x.line(p, SET, 0, 2, 0), FULL);
            Check.due("again", x.line(p, END, 0, 0, 0), FULL);
            Check.due("it stays at twelve", x.told(10 + p), 12);
            Check.due("shown", x.run(p, 0, 3), 11);
            Check.due("the twelfth counts", x.run(p, 0, 1), 64);
        }
        x.clear(3);
        Check.due("room again", x.line(3, END, 0, 0, 0), 0);
    }

    private static void lineStandsBehindTheProgram() {
        TwinRuns x = new TwinRuns();
        x.line(0, SET, 0, 1, 0);
        x.line(0, SHOW, 0, 0, 0);
        x.line(0, SET, 0, 2, 0);
        x.line(0, SHOW, 0, 0, 0);
        Check.due("first", x.run(0, 0, 10), 1);
        Check.due("then", x.run(0, 0, 11), 2);
        Check.due("at last", x.run(0, 0, 1), Check.mem(2, 0, 0, 0));
        Check.due("other PROGRAMS", x.told(11) + x.told(12) + x.told(13), 0);
    }

    private static void programsOfLine() {
        Check.range("program", (x, n) -> x.line(n, SET, 0, 0, 0), 0, 3, UNKNOWN);
    }

    private static void numbersOfEachAct() {
        Check.range("act by line", (x, n) -> x.line(2, n, 0, 0, 0), 0, 7, OUTSIDE);
        Check.range("act by change", (x, n) -> x.change(0, 4, n, 0, 0, 0), 0, 7, OUTSIDE);
        for (int act = 0; act < 8; act++) {
            int here = act;
            String of = " of act " + act;
            Check.range("a" + of, (x, n) -> x.line(2, here, n, 0, 0), 0, TOPS[act][0], OUTSIDE);
            Check.range("b" + of, (x, n) -> x.line(2, here, 0, n, 0), 0, TOPS[act][1], OUTSIDE);
            Check.range("c" + of, (x, n) -> x.line(2, here, 0, 0, n), 0, TOPS[act][2], OUTSIDE);
            Check.range("changed a" + of, (x, n) -> x.change(0, 4, here, n, 0, 0), 0, TOPS[act][0], OUTSIDE);
            Check.range("changed b" + of, (x, n) -> x.change(0, 4, here, 0, n, 0), 0, TOPS[act][1], OUTSIDE);
            Check.range("changed c" + of, (x, n) -> x.change(0, 4, here, 0, 0, n), 0, TOPS[act][2], OUTSIDE);
        }
    }

    /** All acts with all numbers from -1 to one above the greatest that any act allows. */
    private static void allNumbersOfAllActs() {
        TwinRuns x = new TwinRuns();
        int calls = 0;
        for (int act = -1; act <= 8; act++) {
            for (int abc = 0; abc < 15 * 15 * 15; abc++) {
                int a = abc / 225 - 1;
                int b = abc / 15 % 15 - 1;
                int c = abc % 15 - 1;
                boolean fine = act >= 0 && act < 8 && a >= 0 && a <= TOPS[act][0] && b >= 0 && b <= TOPS[act][1]
                    && c >= 0 && c <= TOPS[act][2];
                if (calls % 500 == 0) {
                    x = new TwinRuns();
                }
                calls += 2;
                Check.due("act " + act + " with " + a + ", " + b + ", " + c, x.line(1, act, a, b, c), fine ? 0 : OUTSIDE);
                Check.due("LINES", x.clear(1), fine ? 1 : 0);
            }
        }
    }

    private static void refusalsOfLineInOrder() {
        Check.refused("program and act", (x, n) -> x.line(n, 8, 0, 0, 0), UNKNOWN, -1, 4);
        Check.refused("program and a", (x, n) -> x.line(n, SET, 4, 0, 0), UNKNOWN, -1, 4);
        Check.refused("program and b", (x, n) -> x.line(n, LEAP, 0, 13, 0), UNKNOWN, -1, 4);
        Check.refused("program and c", (x, n) -> x.line(n, SET, 0, 0, -1), UNKNOWN, -1, 4);
        TwinRuns x = Check.many(new TwinRuns(), 0, 12, SHOW, 2, 0, 0);
        Check.due("full, and act", x.line(0, 8, 0, 0, 0), OUTSIDE);
        Check.due("full, and a", x.line(0, SHOW, -1, 0, 0), OUTSIDE);
        Check.due("full, and b", x.line(0, SHOW, 0, 1, 0), OUTSIDE);
        Check.due("full, and c", x.line(0, SUM, 0, 0, 4), OUTSIDE);
        Check.due("full alone", x.line(0, SUM, 0, 0, 3), FULL);
        Check.due("all twelve show as they did", x.run(0, Check.mem(0, 0, 3, 0), 3), 12);
        Check.due("the last one", x.run(0, Check.mem(0, 0, 3, 0), 21), 3);
    }

    // ---- 3 change

    private static void changeTellsWhichActItWas() {
        TwinRuns x = new TwinRuns();
        x.line(0, 0, 0, 0, 0);
        for (int act = 0; act < 8; act++) {
            Check.due("it was the one before", x.change(0, 0, act, 0, 0, 0), Math.max(act - 1, 0));
        }
        Check.due("it was END", x.change(0, 0, END, 0, 0, 0), END);
        Check.due("one LINE", x.told(10), 1);
    }

    private static void changeOfLinesThatAreThere() {
        Check.range("LINE of 5", (x, n) -> x.change(0, n, SET, 0, 0, 0), 0, 4, UNKNOWN);
        Check.range("LINE of 11", (x, n) -> x.change(1, n, SET, 0, 0, 0), 0, 10, UNKNOWN);
        Check.range("LINE of 1", (x, n) -> x.change(2, n, SET, 0, 0, 0), 0, 0, UNKNOWN);
        Check.refused("LINE of none", (x, n) -> x.change(3, n, SET, 0, 0, 0), UNKNOWN, -1, 0, 1, 11, 12);
        TwinRuns full = Check.many(new TwinRuns(), 3, 12, SHOW, 0, 0, 0);
        Check.due("the last of twelve", full.change(3, 11, SET, 0, 0, 0), SHOW);
        Check.due("behind it", full.change(3, 12, SET, 0, 0, 0), UNKNOWN);
        full.clear(3);
        Check.due("gone", full.change(3, 0, SET, 0, 0, 0), UNKNOWN);
        full.line(3, END, 0, 0, 0);
        Check.due("there again", full.change(3, 0, SET, 0, 0, 0), END);
        Check.due("but not the second", full.change(3, 1, SET, 0, 0, 0), UNKNOWN);
    }

    private static void changeOfOneLineLeavesTheOthers() {
        for (int line = 0; line < 12; line++) {
            TwinRuns x = Check.many(new TwinRuns(), 0, 12, SHOW, 0, 0, 0);
            x.change(0, line, SHOW, 3, 0, 0);
            for (int i = 0; i < 12; i++) {
                Check.due("value " + i, x.run(0, Check.mem(1, 0, 0, 2), 10 + i), i == line ? 2 : 1);
            }
        }
    }

    private static void programsOfChange() {
        Check.refused("program", (x, n) -> x.change(n, 0, SET, 0, 0, 0), UNKNOWN, -1, 4, Integer.MIN_VALUE,
            Integer.MAX_VALUE);
        for (int p = 0; p < 4; p++) {
            TwinRuns x = Check.lines(new TwinRuns(), p, SHOW, 0, 0, 0);
            Check.due("PROGRAM " + p, x.change(p, 0, END, 0, 0, 0), SHOW);
        }
    }

    private static void refusalsOfChangeInOrder() {
        Check.refused("program and act", (x, n) -> x.change(n, 0, 8, 0, 0, 0), UNKNOWN, -1, 4);
        Check.refused("program and a", (x, n) -> x.change(n, 0, SET, 4, 0, 0), UNKNOWN, -1, 4);
        Check.refused("LINE and act", (x, n) -> x.change(0, n, -1, 0, 0, 0), UNKNOWN, -1, 5);
        Check.refused("LINE and a", (x, n) -> x.change(0, n, SET, 4, 0, 0), UNKNOWN, -1, 5);
        Check.refused("LINE and b", (x, n) -> x.change(0, n, SHOW, 0, 1, 0), UNKNOWN, -1, 5);
        Check.refused("LINE and c", (x, n) -> x.change(0, n, END, 0, 0, 1), UNKNOWN, -1, 5);
    }

    // ---- 4 clear

    private static void clearTellsHowManyThereWere() {
        for (int count = 0; count <= 12; count++) {
            TwinRuns x = Check.many(new TwinRuns(), 1, count, SET, 0, 3, 0);
            Check.due("there were", x.clear(1), count);
            Check.due("there are", x.told(11), 0);
            Check.due("nothing is done", x.run(1, 5, 1), 5);
            Check.due("nothing more to go", x.clear(1), 0);
        }
    }

    private static void noneIsSilentThen() {
        TwinRuns x = Check.many(new TwinRuns(), 0, 12, SHOW, 0, 0, 0);
        x.silent(0, 4095);
        x.silent(1, 9);
        x.clear(0);
        Check.due("told", x.told(20), 0);
        Check.many(x, 0, 12, SHOW, 0, 0, 0);
        Check.due("all show", x.run(0, 0, 3), 12);
        Check.due("which they were", x.silent(0, 0), 0);
        Check.due("SILENT ones of another", x.told(21), 9);
        x.clear(1);
        Check.due("SILENT ones of one without LINES", x.told(21), 0);
    }

    private static void clearLeavesTheRest() {
        TwinRuns x = Check.rich();
        x.clear(0);
        Check.due("LINES", x.told(11), 11);
        Check.due("LINES", x.told(12), 1);
        Check.due("SILENT ones", x.told(23), 5);
        Check.due("SAYINGS", x.told(0), 2);
        Check.due("signs", x.told(1), 5);
        Check.due("WAITS", x.wait(0, 0, 0), 1);
        Check.due("TOLD SHAPES", x.tell(12, 12, 0), 7);
    }

    private static void programsOfClear() {
        Check.range("program", (x, n) -> x.clear(n), 0, 3, UNKNOWN);
    }

    // ---- 5 silent

    private static void silentLinesAsBits() {
        Check.range("lines", (x, n) -> x.silent(0, n), 0, 4095, OUTSIDE);
        Check.range("lines of a PROGRAM without any", (x, n) -> x.silent(3, n), 0, 4095, OUTSIDE);
        TwinRuns x = new TwinRuns();
        int before = 0;
        for (int bits : new int[] {1, 2048, 4095, 0, 4095, 1365, 2730}) {
            Check.due("which they were", x.silent(2, bits), before);
            Check.due("which they are", x.told(22), bits);
            before = bits;
        }
    }

    private static void silentShowShowsNothing() {
        TwinRuns x = Check.many(new TwinRuns(), 0, 12, SHOW, 0, 0, 0);
        for (int line = 0; line < 12; line++) {
            x.change(0, line, SHOW, line % 4, 0, 0);
        }
        int start = Check.mem(0, 1, 2, 3);
        for (int line = 0; line < 12; line++) {
            x.silent(0, 1 << line);
            Check.due("eleven show", x.run(0, start, 3), 11);
            Check.due("twelve STEPS", x.run(0, start, 2), 12);
            Check.due("the one ahead", x.run(0, start, 10 + Math.max(line - 1, 0)), line == 0 ? 1 : (line - 1) % 4);
            Check.due("the one behind", x.run(0, start, 10 + line), line == 11 ? NONE : (line + 1) % 4);
        }
        x.silent(0, 4095);
        Check.due("none shows", x.run(0, start, 3), 0);
        Check.due("no first value", x.run(0, start, 10), NONE);
        x.silent(0, 0);
        Check.due("all show", x.run(0, start, 3), 12);
    }

    private static void silentIsForShowsAlone() {
        TwinRuns x = Check.lines(new TwinRuns(), 0, SET, 0, 1, 0, COPY, 1, 0, 0, SUM, 2, 0, 1, LESS, 3, 2, 1, LEAP, 0, 6, 0,
            SHOW, 0, 0, 0, REST, 2, 2, 2, END, 0, 0, 0, SHOW, 0, 0, 0);
        x.silent(0, 4095 - 32 - 256);
        Check.due("MEMORY", x.run(0, 0, 1), Check.mem(1, 1, 0, 1));
        Check.due("STEPS", x.run(0, 0, 2), 7);
        Check.due("END", x.run(0, 0, 0), 0);
        Check.due("nothing is shown", x.run(0, 0, 3), 0);
        x.change(0, 6, REST, 2, 2, 3);
        x.change(0, 3, LESS, 3, 3, 3);
        Check.due("REFUSED", x.run(0, 0, 0), 1);
    }

    private static void silentBelongsToItsProgram() {
        TwinRuns x = new TwinRuns();
        for (int p = 0; p < 4; p++) {
            x.line(p, SHOW, 0, 0, 0);
        }
        x.silent(2, 1);
        for (int p = 0; p < 4; p++) {
            Check.due("shown by " + p, x.run(p, 0, 3), p == 2 ? 0 : 1);
        }
    }

    private static void silentAheadOfItsLine() {
        TwinRuns x = new TwinRuns();
        x.silent(0, 2);
        Check.lines(x, 0, SHOW, 0, 0, 0, SHOW, 1, 0, 0);
        Check.due("LINE 0 alone shows", x.run(0, Check.mem(2, 3, 0, 0), 3), 1);
        Check.due("its value", x.run(0, Check.mem(2, 3, 0, 0), 10), 2);
        x.change(0, 1, SHOW, 2, 0, 0);
        Check.due("told anew it is SILENT still", x.run(0, 0, 3), 1);
        Check.due("told", x.told(20), 2);
    }

    private static void refusalsOfSilentInOrder() {
        Check.range("program", (x, n) -> x.silent(n, 3), 0, 3, UNKNOWN);
        Check.refused("program and lines", (x, n) -> x.silent(n, 4096), UNKNOWN, -1, 4);
        Check.refused("program and lines", (x, n) -> x.silent(n, -1), UNKNOWN, -1, 4);
    }

    // ---- 6 run

    private static void numbersOfRun() {
        Check.range("program", (x, n) -> x.run(n, 0, 0), 0, 3, UNKNOWN);
        Check.range("START", (x, n) -> x.run(0, n, 0), 0, 255, OUTSIDE);
        for (int what : new int[] {0, 1, 2, 3, 10, 33}) {
            int got = Check.rich().run(0, 0, what);
            Check.due("what " + what, got >= 0 || got == NONE ? 1 : 0, 1);
        }
        Check.refused("what", (x, n) -> x.run(0, 0, n), OUTSIDE, -1, 4, 5, 6, 7, 8, 9, 34, 35, Integer.MIN_VALUE,
            Integer.MAX_VALUE);
    }

    private static void refusalsOfRunInOrder() {
        Check.refused("program and START", (x, n) -> x.run(n, 256, 0), UNKNOWN, -1, 4);
        Check.refused("program and START", (x, n) -> x.run(n, -1, 0), UNKNOWN, -1, 4);
        Check.refused("program and what", (x, n) -> x.run(n, 0, 4), UNKNOWN, -1, 4);
        Check.refused("START and what", (x, n) -> x.run(0, n, 34), OUTSIDE, -1, 256);
    }

    private static void startsAreFourDigits() {
        TwinRuns x = new TwinRuns();
        Check.due("0", x.run(0, 0, 1), 0);
        Check.due("255", x.run(0, 255, 1), 255);
        int[] worth = {64, 16, 4, 1};
        for (int v = 0; v < 4; v++) {
            x.clear(0);
            Check.lines(x, 0, SHOW, v, 0, 0, SET, v, 3, 0, SHOW, v, 0, 0);
            Check.due("3 is put", x.run(0, 0, 1), 3 * worth[v]);
            Check.due("as it was", x.run(0, 2 * worth[v], 10), 2);
            Check.due("of 255 less 2", x.run(0, 255 - 2 * worth[v], 10), 1);
            Check.due("as it is", x.run(0, 2 * worth[v], 11), 3);
            x.change(0, 1, SET, v, 0, 0);
            Check.due("0 is put", x.run(0, 255, 1), 255 - 3 * worth[v]);
        }
    }

    private static void sumsAndDifferencesLeftOverByFour() {
        int[][] sum = {{0, 1, 2, 3}, {1, 2, 3, 0}, {2, 3, 0, 1}, {3, 0, 1, 2}};
        int[][] less = {{0, 3, 2, 1}, {1, 0, 3, 2}, {2, 1, 0, 3}, {3, 2, 1, 0}};
        TwinRuns x = Check.lines(new TwinRuns(), 0, SUM, 2, 0, 1, LESS, 3, 0, 1);
        for (int l = 0; l < 4; l++) {
            for (int r = 0; r < 4; r++) {
                for (int rest = 0; rest < 16; rest += 15) {
                    int due = Check.mem(l, r, sum[l][r], less[l][r]);
                    Check.due(l + " and " + r, x.run(0, Check.mem(l, r, 0, 0) + rest, 1), due);
                }
            }
        }
    }

    private static void whatIsLeftOfAllByAll() {
        int[][] left = {{-1, 0, 0, 0}, {-1, 0, 1, 1}, {-1, 0, 0, 2}, {-1, 0, 1, 0}};
        TwinRuns x = Check.lines(new TwinRuns(), 0, REST, 2, 0, 1);
        for (int l = 0; l < 4; l++) {
            for (int r = 0; r < 4; r++) {
                int start = Check.mem(l, r, 3, 2);
                boolean refused = left[l][r] < 0;
                Check.due(l + " by " + r, x.run(0, start, 1), refused ? start : Check.mem(l, r, left[l][r], 2));
                Check.due(l + " by " + r, x.run(0, start, 0), refused ? 1 : 0);
            }
        }
    }

    /** Each act with each choice of VARIABLES, the same one more than once too. */
    private static void actsOfAllVariables() {
        for (int abc = 0; abc < 64; abc++) {
            int a = abc / 16;
            int b = abc / 4 % 4;
            int c = abc % 4;
            TwinRuns x = Check.lines(new TwinRuns(), 0, SUM, a, b, c);
            Check.lines(x, 1, LESS, a, b, c);
            Check.lines(x, 2, REST, a, b, c);
            Check.lines(x, 3, COPY, a, b, 0);
            for (int start : new int[] {Check.mem(1, 2, 3, 1), Check.mem(3, 1, 2, 3)}) {
                int l = Check.digit(start, b);
                int r = Check.digit(start, c);
                Check.due("SUM", x.run(0, start, 1), with(start, a, (l + r) % 4));
                Check.due("LESS", x.run(1, start, 1), with(start, a, (l + 4 - r) % 4));
                Check.due("REST", x.run(2, start, 1), with(start, a, l % r));
                Check.due("COPY", x.run(3, start, 1), with(start, a, l));
            }
        }
    }

    private static int with(int memory, int v, int value) {
        int[] m = {Check.digit(memory, 0), Check.digit(memory, 1), Check.digit(memory, 2), Check.digit(memory, 3)};
        m[v] = value;
        return Check.mem(m[0], m[1], m[2], m[3]);
    }

    private static void restByNoughtIsRefused() {
        TwinRuns x = Check.lines(new TwinRuns(), 0, SHOW, 0, 0, 0, REST, 0, 0, 1, SHOW, 0, 0, 0, SET, 3, 3, 0);
        int start = Check.mem(3, 0, 1, 2);
        Check.due("END", x.run(0, start, 0), 1);
        Check.due("nothing is changed by it", x.run(0, start, 1), start);
        Check.due("it counts as a STEP", x.run(0, start, 2), 2);
        Check.due("nothing is done behind it", x.run(0, start, 3), 1);
        x.change(0, 1, REST, 0, 1, 1);
        Check.due("0 by 0", x.run(0, start, 0), 1);
        x.change(0, 1, REST, 1, 1, 0);
        Check.due("0 by 3", x.run(0, start, 0), 0);
        x.change(0, 3, REST, 0, 0, 1);
        Check.due("the last LINE", x.run(0, start, 0), 1);
        Check.due("all STEPS", x.run(0, start, 2), 4);
    }

    private static void leapIfAboveNought() {
        for (int v = 0; v < 4; v++) {
            TwinRuns x = Check.lines(new TwinRuns(), 0, LEAP, v, 2, 0, SHOW, 0, 0, 0);
            for (int value = 0; value < 4; value++) {
                int alone = with(0, v, value);
                Check.due("by " + value, x.run(0, alone, 3), value == 0 ? 1 : 0);
                Check.due("by " + value + " among 3s", x.run(0, with(255, v, value), 3), value == 0 ? 1 : 0);
                Check.due("MEMORY", x.run(0, alone, 1), alone);
            }
        }
    }

    private static void leapToLinesNoughtToTwelve() {
        TwinRuns x = Check.lines(new TwinRuns(), 0, LEAP, 0, 0, 0);
        Check.many(x, 0, 11, SHOW, 1, 0, 0);
        int start = Check.mem(1, 2, 0, 0);
        Check.due("LINE 0 for ever", x.run(0, start, 0), 2);
        Check.due("24 STEPS", x.run(0, start, 2), 24);
        Check.due("nothing shown", x.run(0, start, 3), 0);
        for (int b = 1; b <= 12; b++) {
            x.change(0, 0, LEAP, 0, b, 0);
            Check.due("shown from LINE " + b + " on", x.run(0, start, 3), 12 - b);
            Check.due("STEPS", x.run(0, start, 2), 13 - b);
            Check.due("END", x.run(0, start, 0), 0);
            Check.due("no leap", x.run(0, 0, 3), 11);
        }
    }

    private static void leapBehindTheLastLine() {
        for (int b = 1; b <= 12; b++) {
            TwinRuns x = Check.lines(new TwinRuns(), 0, LEAP, 0, b, 0, SHOW, 0, 0, 0);
            Check.due("END", x.run(0, 64, 0), 0);
            Check.due("STEPS", x.run(0, 64, 2), b == 1 ? 2 : 1);
            Check.due("shown", x.run(0, 64, 3), b == 1 ? 1 : 0);
            Check.due("MEMORY", x.run(0, 64, 1), 64);
        }
        TwinRuns x = Check.lines(new TwinRuns(), 0, LEAP, 0, 2, 0, END, 0, 0, 0);
        Check.due("behind the last", x.run(0, 64, 3), 0);
        x.line(0, SHOW, 0, 0, 0);
        Check.due("it is there now", x.run(0, 64, 3), 1);
    }

    private static void endsByEndOrBehindTheLastLine() {
        TwinRuns x = Check.lines(new TwinRuns(), 0, END, 0, 0, 0, SHOW, 0, 0, 0);
        Check.due("by END", x.run(0, 9, 0), 0);
        Check.due("END is a STEP", x.run(0, 9, 2), 1);
        Check.due("nothing behind END is done", x.run(0, 9, 3), 0);
        x.change(0, 0, SHOW, 3, 0, 0);
        Check.due("behind the last LINE", x.run(0, 9, 0), 0);
        Check.due("two STEPS", x.run(0, 9, 2), 2);
    }

    /** A RUN from c 1, d 3: 21 STEPS of three rounds, then up to five LINES more. */
    private static TwinRuns rounds(int... tail) {
        TwinRuns x = Check.lines(new TwinRuns(), 0, LESS, 3, 3, 2);
        Check.many(x, 0, 5, COPY, 0, 0, 0);
        Check.lines(x, 0, LEAP, 3, 0, 0);
        return Check.lines(x, 0, tail);
    }

    private static final int START = Check.mem(0, 0, 1, 3);

    private static void behindTheLastLineAtTwentyFourSteps() {
        TwinRuns x = rounds();
        for (int steps = 21; steps <= 26; steps++) {
            Check.due(steps + " STEPS", x.run(0, START, 0), steps <= 24 ? 0 : 2);
            Check.due(steps + " STEPS", x.run(0, START, 2), Math.min(steps, 24));
            x.line(0, COPY, 0, 0, 0);
        }
    }

    private static void endAsTheLastStep() {
        TwinRuns x = rounds(COPY, 0, 0, 0, END, 0, 0, 0);
        Check.due("the 23rd", x.run(0, START, 0), 0);
        Check.due("23", x.run(0, START, 2), 23);
        x.change(0, 8, COPY, 0, 0, 0);
        Check.lines(x, 0, END, 0, 0, 0, COPY, 0, 0, 0, COPY, 0, 0, 0);
        Check.due("the 24th", x.run(0, START, 0), 0);
        Check.due("24", x.run(0, START, 2), 24);
        x.change(0, 9, COPY, 0, 0, 0);
        x.change(0, 10, END, 0, 0, 0);
        Check.due("the 25th is not done", x.run(0, START, 0), 2);
        Check.due("24", x.run(0, START, 2), 24);
    }

    private static void refusedAsTheLastStep() {
        TwinRuns x = rounds(COPY, 0, 0, 0, COPY, 0, 0, 0, REST, 0, 0, 0, COPY, 0, 0, 0, COPY, 0, 0, 0);
        Check.due("the 24th", x.run(0, START, 0), 1);
        Check.due("24", x.run(0, START, 2), 24);
        x.change(0, 9, COPY, 0, 0, 0);
        x.change(0, 10, REST, 0, 0, 0);
        Check.due("the 25th is not done", x.run(0, START, 0), 2);
        x.change(0, 8, REST, 0, 0, 0);
        Check.due("the 23rd", x.run(0, START, 0), 1);
        Check.due("23", x.run(0, START, 2), 23);
    }

    private static void lastStepCounts() {
        TwinRuns x = rounds(COPY, 0, 0, 0, COPY, 0, 0, 0, SET, 0, 2, 0, SET, 1, 2, 0, COPY, 0, 0, 0);
        Check.due("the 24th is done, the 25th not", x.run(0, START, 1), Check.mem(2, 0, 1, 0));
        x.change(0, 9, SHOW, 2, 0, 0);
        x.change(0, 10, SHOW, 2, 0, 0);
        Check.due("the 24th shows", x.run(0, START, 3), 1);
        Check.due("its value", x.run(0, START, 10), 1);
        Check.due("SPENT", x.run(0, START, 0), 2);
    }

    private static void valuesShown() {
        TwinRuns x = Check.many(new TwinRuns(), 0, 11, SHOW, 0, 0, 0);
        for (int i = 0; i < 11; i++) {
            x.change(0, i, SHOW, i % 4, 0, 0);
        }
        x.line(0, LEAP, 3, 0, 0);
        int start = Check.mem(0, 1, 2, 3);
        Check.due("as many as can be", x.run(0, start, 3), 22);
        for (int i = 0; i < 22; i++) {
            Check.due("value " + i, x.run(0, start, 10 + i), i % 11 % 4);
        }
        Check.due("none behind them", x.run(0, start, 32), NONE);
        Check.due("none behind them", x.run(0, start, 33), NONE);
        Check.due("one round", x.run(0, 0, 3), 11);
        Check.due("its last", x.run(0, 0, 20), 0);
        Check.due("none behind it", x.run(0, 0, 21), NONE);
        for (int what = 10; what <= 33; what++) {
            Check.due("of an empty one", x.run(1, start, what), NONE);
        }
    }

    private static void runOfLinesToldAnew() {
        TwinRuns x = Check.lines(new TwinRuns(), 0, SHOW, 0, 0, 0);
        Check.due("one", x.run(0, 64, 3), 1);
        x.line(0, SHOW, 1, 0, 0);
        Check.due("two", x.run(0, 64, 3), 2);
        x.change(0, 0, SET, 0, 2, 0);
        Check.due("changed", x.run(0, 64, 1), 128);
        x.silent(0, 2);
        Check.due("none", x.run(0, 64, 3), 0);
        x.clear(0);
        Check.due("as it began", x.run(0, 64, 1), 64);
    }

    private static void tellNewObjects() {
        Check.sentence("terms: the constants", RunsBoundaryTest::constants);
        Check.sentence("terms: at most 512 calls", RunsBoundaryTest::fiveHundredAndTwelveCalls);
        Check.sentence("1: all PROGRAMS are without LINES", RunsBoundaryTest::noLinesAtFirst);
        Check.sentence("1: none are SILENT at first", RunsBoundaryTest::noneSilentAtFirst);
        Check.sentence("1: no SAYINGS", RunsBoundaryTest::noSayingsAtFirst);
        Check.sentence("1: all WAITS are 0", RunsBoundaryTest::allWaitsAreNought);
        Check.sentence("1: TOLD SHAPES are 4095 at first", RunsBoundaryTest::allShapesAreToldAtFirst);
        Check.sentence("1: a new object is new", RunsBoundaryTest::newObjectsShareNothing);
    }

    private static void tellLines() {
        Check.sentence("2: numbered from 0 on", RunsBoundaryTest::numberedFromNoughtOn);
        Check.sentence("2: 12 at most each", RunsBoundaryTest::twelveLinesAtMostEach);
        Check.sentence("2: behind a PROGRAM", RunsBoundaryTest::lineStandsBehindTheProgram);
        Check.sentence("2: PROGRAMS 0 to 3", RunsBoundaryTest::programsOfLine);
        Check.sentence("2, 3: an act and numbers a, b, c", RunsBoundaryTest::numbersOfEachAct);
        Check.sentence("2: which numbers an act has", RunsBoundaryTest::allNumbersOfAllActs);
        Check.sentence("2: the first refusal that fits", RunsBoundaryTest::refusalsOfLineInOrder);
        Check.sentence("3: which act it was", RunsBoundaryTest::changeTellsWhichActItWas);
        Check.sentence("3: there is no such LINE", RunsBoundaryTest::changeOfLinesThatAreThere);
        Check.sentence("3: a LINE is told anew", RunsBoundaryTest::changeOfOneLineLeavesTheOthers);
        Check.sentence("3: PROGRAMS 0 to 3", RunsBoundaryTest::programsOfChange);
        Check.sentence("3: the first refusal that fits", RunsBoundaryTest::refusalsOfChangeInOrder);
        Check.sentence("4: how many there were", RunsBoundaryTest::clearTellsHowManyThereWere);
        Check.sentence("4: none is SILENT then", RunsBoundaryTest::noneIsSilentThen);
        Check.sentence("4: LINES of a PROGRAM go", RunsBoundaryTest::clearLeavesTheRest);
        Check.sentence("4: PROGRAMS 0 to 3", RunsBoundaryTest::programsOfClear);
        Check.sentence("5: bits 0 to 4095", RunsBoundaryTest::silentLinesAsBits);
        Check.sentence("5: a SHOW there shows nothing", RunsBoundaryTest::silentShowShowsNothing);
        Check.sentence("5: a SHOW alone", RunsBoundaryTest::silentIsForShowsAlone);
        Check.sentence("5: of a PROGRAM", RunsBoundaryTest::silentBelongsToItsProgram);
        Check.sentence("5: LINES that are not there yet", RunsBoundaryTest::silentAheadOfItsLine);
        Check.sentence("5: the first refusal that fits", RunsBoundaryTest::refusalsOfSilentInOrder);
    }

    private static void tellRuns() {
        Check.sentence("6: the START, what 0 to 3, 10 to 33", RunsBoundaryTest::numbersOfRun);
        Check.sentence("6: the first refusal that fits", RunsBoundaryTest::refusalsOfRunInOrder);
        Check.sentence("6: four digits of four, 0 to 255", RunsBoundaryTest::startsAreFourDigits);
        Check.sentence("6: SUM and LESS left over by 4", RunsBoundaryTest::sumsAndDifferencesLeftOverByFour);
        Check.sentence("6: REST of b by c", RunsBoundaryTest::whatIsLeftOfAllByAll);
        Check.sentence("6: VARIABLES a, b, c", RunsBoundaryTest::actsOfAllVariables);
        Check.sentence("6: c 0: REFUSED", RunsBoundaryTest::restByNoughtIsRefused);
        Check.sentence("6: LEAP if a is above 0", RunsBoundaryTest::leapIfAboveNought);
        Check.sentence("6: LINE b (0 to 12) is next", RunsBoundaryTest::leapToLinesNoughtToTwelve);
        Check.sentence("6: a LEAP behind the last LINE", RunsBoundaryTest::leapBehindTheLastLine);
        Check.sentence("6: 0 by END, or behind the last LINE", RunsBoundaryTest::endsByEndOrBehindTheLastLine);
        Check.sentence("6: SPENT behind 24 STEPS", RunsBoundaryTest::behindTheLastLineAtTwentyFourSteps);
        Check.sentence("6: END is a STEP too", RunsBoundaryTest::endAsTheLastStep);
        Check.sentence("6: REFUSED counts as a STEP", RunsBoundaryTest::refusedAsTheLastStep);
        Check.sentence("6: what the 24th STEP does", RunsBoundaryTest::lastStepCounts);
        Check.sentence("6: the i-th value shown (NONE)", RunsBoundaryTest::valuesShown);
        Check.sentence("6: by the LINES that are", RunsBoundaryTest::runOfLinesToldAnew);
    }

    public static void main(String[] args) {
        tellNewObjects();
        tellLines();
        tellRuns();
        Check.end("RunsBoundaryTest");
    }
}
