/** The boundary cases of promises 14 to 18, a test for each sentence that names one. */
public final class WalksBoundaryTest {
    private static final int UNKNOWN = Check.UNKNOWN, OUTSIDE = Check.OUTSIDE, NONE = Check.NONE;
    private static final int SET = Check.SET, COPY = Check.COPY, SUM = Check.SUM, REST = Check.REST;
    private static final int LEAP = Check.LEAP, SHOW = Check.SHOW, END = Check.END;

    private static final int ALL = 4095;

    /** Two PROGRAMS of so many LINES that change nothing, and a SAYING of all alike: number 0. */
    private static TwinRuns still(int first, int second) {
        TwinRuns x = Check.many(new TwinRuns(), 0, first, COPY, 0, 0, 0);
        Check.many(x, 1, second, COPY, 0, 0, 0);
        Check.saying(x, Check.SAME + "e");
        return x;
    }

    // ---- 14 wait

    private static void numbersOfWait() {
        Check.range("one", (x, n) -> x.wait(n, 0, 2), 0, 11, OUTSIDE);
        Check.range("two", (x, n) -> x.wait(0, n, 2), 0, 11, OUTSIDE);
        Check.range("how", (x, n) -> x.wait(0, 0, n), 0, 2, OUTSIDE);
        Check.refused("both ended", x -> x.wait(12, 12, 0), OUTSIDE);
    }

    private static void eachPlaceHasItsOwnWaits() {
        TwinRuns x = new TwinRuns();
        for (int place = 0; place < 144; place++) {
            Check.due("at first", x.wait(place / 12, place % 12, 2 - place % 5 % 3), 0);
        }
        for (int place = 0; place < 144; place++) {
            Check.due("told", x.wait(place / 12, place % 12, 0), 2 - place % 5 % 3);
        }
    }

    private static void whichWaitItWas() {
        TwinRuns x = new TwinRuns();
        int before = 0;
        for (int how : new int[] {1, 2, 0, 2, 1, 1, 0, 0}) {
            Check.due("it was", x.wait(11, 11, how), before);
            before = how;
        }
    }

    private static void whoMakesAStep() {
        TwinRuns x = still(2, 2);
        Check.due("both: 0 0, 1 1, 12 12", x.walk(0, 0, 1, 0), 3);
        Check.due("both", x.walk(0, 0, 1, 2), 2);
        x.wait(0, 0, 1);
        // 0 0, 1 0, 12 1, 12 12
        Check.due("the first one alone", x.walk(0, 0, 1, 0), 4);
        Check.due("it stands at 1, 0", x.shape(0, 0, 1, 1, 0), ALL);
        Check.due("moves", x.walk(0, 0, 1, 2), 3);
        x.tell(1, 0, 0);
        Check.due("1, 0 is a PLACE", x.fails(0, 0, 1), 100);
        x.wait(0, 0, 2);
        x.tell(0, 1, 0);
        Check.due("the second one alone: 0, 1 is a PLACE", x.fails(0, 0, 1), 1);
        Check.due("moves", x.walk(0, 0, 1, 2), 3);
    }

    private static void waitsAtTheLastLines() {
        TwinRuns x = still(12, 12);
        Check.due("side by side", x.walk(0, 0, 1, 0), 13);
        x.wait(11, 11, 1);
        Check.due("12, 11 beside", x.walk(0, 0, 1, 0), 14);
        Check.due("unlike", x.walk(0, 0, 1, 1), 1);
        Check.due("moves", x.walk(0, 0, 1, 2), 13);
        x.tell(12, 11, 0);
        Check.due("it stands there", x.fails(0, 0, 1), 1211);
        x.wait(11, 11, 2);
        x.tell(11, 12, 0);
        Check.due("11, 12", x.fails(0, 0, 1), 1112);
    }

    private static void waitsOfPlacesNobodyStandsAt() {
        TwinRuns x = still(2, 2);
        x.wait(0, 1, 2);
        x.wait(1, 0, 1);
        x.wait(2, 2, 1);
        x.wait(11, 0, 1);
        Check.due("as ever", x.walk(0, 0, 1, 0), 3);
        Check.due("moves", x.walk(0, 0, 1, 2), 2);
    }

    // ---- 15 walk

    private static void numbersOfWalk() {
        Check.range("saying", (x, n) -> x.walk(n, 0, 0, 0), 0, 1, UNKNOWN);
        Check.range("p", (x, n) -> x.walk(0, n, 0, 0), 0, 3, UNKNOWN);
        Check.range("q", (x, n) -> x.walk(0, 0, n, 0), 0, 3, UNKNOWN);
        Check.range("what", (x, n) -> x.walk(0, 0, 0, n), 0, 2, OUTSIDE);
    }

    private static void refusalsOfWalkInOrder() {
        for (int bad : new int[] {-1, 3}) {
            Check.refused("saying and what", (x, n) -> x.walk(n, 0, 0, bad), UNKNOWN, -1, 2);
            Check.refused("p and what", (x, n) -> x.walk(0, n, 0, bad), UNKNOWN, -1, 4);
            Check.refused("q and what", (x, n) -> x.walk(0, 0, n, bad), UNKNOWN, -1, 4);
        }
    }

    private static void walksOfEmptyPrograms() {
        TwinRuns x = still(0, 3);
        Check.due("12, 12 alone", x.walk(0, 0, 0, 0), 1);
        Check.due("none unlike", x.walk(0, 0, 0, 1), 0);
        Check.due("no moves", x.walk(0, 0, 0, 2), 0);
        Check.due("12, 0 to 12, 12", x.walk(0, 0, 1, 0), 4);
        Check.due("three unlike", x.walk(0, 0, 1, 1), 3);
        Check.due("three moves", x.walk(0, 0, 1, 2), 3);
        Check.due("0, 12 to 12, 12", x.walk(0, 1, 0, 0), 4);
        Check.due("three unlike", x.walk(0, 1, 0, 1), 3);
        Check.due("three moves", x.walk(0, 1, 0, 2), 3);
    }

    private static void walksOfNoPairs() {
        TwinRuns x = still(3, 2);
        int never = Check.saying(x, "a<a&a>a:e");
        for (int what = 0; what < 3; what++) {
            Check.due("what " + what, x.walk(never, 0, 1, what), 0);
        }
        Check.due("all bits at 0, 0", x.shape(never, 0, 1, 0, 0), ALL);
        Check.due("no PLACE fails", x.fails(never, 0, 1), NONE);
    }

    private static void walksOfTwelveLines() {
        TwinRuns x = still(12, 12);
        Check.due("PLACES", x.walk(0, 0, 1, 0), 13);
        Check.due("unlike", x.walk(0, 0, 1, 1), 0);
        Check.due("moves", x.walk(0, 0, 1, 2), 12);
        Check.due("one has ENDED", x.walk(0, 0, 2, 0), 13);
        Check.due("unlike but for the last", x.walk(0, 0, 2, 1), 12);
        Check.due("moves", x.walk(0, 0, 2, 2), 12);
    }

    private static void theMostMovesOfSpentOnes() {
        TwinRuns x = Check.lines(new TwinRuns(), 0, LEAP, 3, 0, 0);
        int d = Check.saying(x, "a=a&b=b&c=c&d=d:e");
        Check.due("d of 0 ends at once, the others are SPENT", x.walk(d, 0, 0, 2), 24);
        Check.due("0 0, 12 12", x.walk(d, 0, 0, 0), 2);
        Check.due("against one that has ENDED", x.walk(d, 0, 1, 2), 24);
        x.wait(0, 0, 1);
        Check.due("one, then the other", x.walk(d, 0, 0, 2), 48);
        Check.due("0 0, 12 0, 12 12", x.walk(d, 0, 0, 0), 3);
        x.wait(0, 0, 2);
        Check.due("the other one first", x.walk(d, 0, 0, 2), 48);
        int some = Check.saying(x, "d<d:e");
        x.wait(0, 0, 0);
        Check.due("1 and 24 STEPS side by side", x.walk(some, 0, 0, 2), 24);
        Check.due("0 0, 12 0, 12 12", x.walk(some, 0, 0, 0), 3);
        x.wait(0, 0, 1);
        Check.due("from d 1 and 2 both are SPENT", x.walk(some, 0, 0, 2), 48);
    }

    /** All PAIRS make 48 moves, and stand at 12, 12 behind them. */
    private static void allArePairsOfSpentOnes() {
        TwinRuns x = Check.lines(new TwinRuns(), 0, SET, 0, 1, 0, LEAP, 0, 0, 0);
        int s = Check.saying(x, "a#a&b=b&c<c:e");
        x.wait(0, 0, 1);
        x.wait(1, 0, 1);
        Check.due("moves", x.walk(s, 0, 0, 2), 48);
        Check.due("0 0, 1 0, 12 0, 12 1, 12 12", x.walk(s, 0, 0, 0), 5);
        Check.due("1 0, 12 0, 12 1", x.walk(s, 0, 0, 1), 3);
        Check.due("both have a 1 at last", x.shape(s, 0, 0, 12, 12), 7 | 7 << 3 | 4 << 6);
    }

    /** START 0 alone comes to LINE 4, as the first one and as the other one. */
    private static void thePlacesOfOnePair() {
        TwinRuns x = Check.lines(new TwinRuns(), 0, LEAP, 0, 12, 0, LEAP, 1, 12, 0, LEAP, 2, 12, 0, LEAP, 3, 12, 0, COPY, 0, 0, 0);
        int up = Check.saying(x, "a<a&b<b&c<c&d<d:e");
        int down = Check.saying(x, "a>a&b>b&c>c&d>d:e");
        x.tell(4, 12, 0);
        x.tell(12, 4, 0);
        Check.due("it is the first one of some PAIRS", x.fails(up, 0, 0), 412);
        Check.due("five moves", x.walk(up, 0, 0, 2), 5);
        Check.due("it is the second one of some PAIRS", x.fails(down, 0, 0), 1204);
        Check.due("five moves", x.walk(down, 0, 0, 2), 5);
        Check.due("less in each", x.shape(up, 0, 0, 4, 12), 4 | 4 << 3 | 4 << 6 | 4 << 9);
        Check.due("greater in each", x.shape(down, 0, 0, 12, 4), 2 | 2 << 3 | 2 << 6 | 2 << 9);
    }

    /** Each run counts its own STEPS: one that waits is not SPENT by the other's. */
    private static void eachCountsItsOwnSteps() {
        TwinRuns x = Check.lines(new TwinRuns(), 0, LEAP, 0, 0, 0);
        Check.many(x, 1, 12, COPY, 0, 0, 0);
        x.change(1, 11, SET, 3, 2, 0);
        int s = Check.saying(x, Check.SAME + "e");
        x.wait(0, 0, 1);
        Check.due("24 and 12 moves", x.walk(s, 0, 1, 2), 36);
        // 0 0, 12 0 to 12 11, 12 12
        Check.due("PLACES", x.walk(s, 0, 1, 0), 14);
    }

    private static void refusedAndEndStandAtTwelve() {
        TwinRuns x = Check.lines(new TwinRuns(), 0, REST, 0, 0, 1, COPY, 0, 0, 0);
        Check.lines(x, 1, END, 0, 0, 0, COPY, 0, 0, 0);
        int s = Check.saying(x, Check.SAME + "e");
        // by b 0: 0 0, 12 12; else 0 0, 1 1, 12 12
        Check.due("REFUSED", x.walk(s, 0, 0, 0), 3);
        Check.due("REFUSED, both alike", x.walk(s, 0, 0, 1), 0);
        Check.due("END", x.walk(s, 1, 1, 0), 2);
        Check.due("END is one move", x.walk(s, 1, 1, 2), 1);
        // by b 0: 0 0, 12 12; else 0 0, 1 12, 12 12
        Check.due("REFUSED or not, and END", x.walk(s, 0, 1, 0), 3);
        Check.due("1, 12", x.walk(s, 0, 1, 1), 1);
        int apart = Check.saying(x, "a=a&b#b:e");
        // 1 12, 12 1 beside
        Check.due("REFUSED and not", x.walk(apart, 0, 0, 0), 5);
        Check.due("unlike", x.walk(apart, 0, 0, 1), 2);
    }

    private static void behindTheLastLineIsTwelve() {
        TwinRuns x = Check.lines(new TwinRuns(), 0, LEAP, 0, 7, 0, COPY, 0, 0, 0);
        int s = Check.saying(x, Check.SAME + "e");
        Check.due("0 0, 1 1, 12 12", x.walk(s, 0, 0, 0), 3);
        x.tell(7, 7, 0);
        x.tell(2, 2, 0);
        Check.due("nobody stands at 7, 7 or 2, 2", x.fails(s, 0, 0), NONE);
    }

    private static TwinRuns fourPrograms() {
        TwinRuns x = Check.lines(new TwinRuns(), 1, LEAP, 3, 12, 0);
        Check.lines(x, 2, LEAP, 3, 12, 0, COPY, 0, 0, 0);
        Check.lines(x, 3, COPY, 0, 0, 0, LEAP, 3, 12, 0, COPY, 0, 0, 0, COPY, 0, 0, 0);
        Check.saying(x, "d=d:e");
        Check.saying(x, "d>d:e");
        return x;
    }

    private static void oneWalkBehindAnother() {
        Check.anyOrder(2, WalksBoundaryTest::fourPrograms, (x, n, p, q) -> x.walk(n, p, q, 0) * 100 + x.walk(n, p, q, 2));
        Check.due("12 12", fourPrograms().walk(0, 0, 0, 0), 1);
        Check.due("0 0, 1 1, 12 12", fourPrograms().walk(0, 2, 2, 0), 3);
        Check.due("by d above another's: 0 0, 12 1, 12 12", fourPrograms().walk(1, 2, 2, 0), 3);
        Check.due("12, 1 is unlike", fourPrograms().walk(1, 2, 2, 1), 1);
    }

    // ---- 16 shape

    private static void numbersOfShape() {
        Check.range("saying", (x, n) -> x.shape(n, 0, 0, 0, 0), 0, 1, UNKNOWN);
        Check.range("p", (x, n) -> x.shape(0, n, 0, 0, 0), 0, 3, UNKNOWN);
        Check.range("q", (x, n) -> x.shape(0, 0, n, 0, 0), 0, 3, UNKNOWN);
        Check.range("one", (x, n) -> x.shape(0, 0, 0, n, 0), 0, 12, OUTSIDE);
        Check.range("two", (x, n) -> x.shape(0, 0, 0, 0, n), 0, 12, OUTSIDE);
    }

    private static void refusalsOfShapeInOrder() {
        for (int bad : new int[] {-1, 13}) {
            Check.refused("saying and one", (x, n) -> x.shape(n, 0, 0, bad, 0), UNKNOWN, -1, 2);
            Check.refused("saying and two", (x, n) -> x.shape(n, 0, 0, 0, bad), UNKNOWN, -1, 2);
            Check.refused("p and one", (x, n) -> x.shape(0, n, 0, bad, 0), UNKNOWN, -1, 4);
            Check.refused("p and two", (x, n) -> x.shape(0, n, 0, 0, bad), UNKNOWN, -1, 4);
            Check.refused("q and one", (x, n) -> x.shape(0, 0, n, bad, 0), UNKNOWN, -1, 4);
            Check.refused("q and two", (x, n) -> x.shape(0, 0, n, 0, bad), UNKNOWN, -1, 4);
        }
    }

    private static void bitsOfEachVariable() {
        for (int v = 0; v < 4; v++) {
            char letter = "abcd".charAt(v);
            TwinRuns x = new TwinRuns();
            int alike = Check.saying(x, letter + "=" + letter + ":e");
            int less = Check.saying(x, letter + "<" + letter + ":e");
            int more = Check.saying(x, letter + ">" + letter + ":e");
            int unlike = Check.saying(x, letter + "#" + letter + ":e");
            Check.due("alike: all three", x.shape(alike, 0, 0, 12, 12), 7 << (3 * v));
            Check.due("less: never greater", x.shape(less, 0, 0, 12, 12), 4 << (3 * v));
            Check.due("greater: never less", x.shape(more, 0, 0, 12, 12), 2 << (3 * v));
            Check.due("unlike: nothing", x.shape(unlike, 0, 0, 12, 12), 0);
        }
    }

    /** a of 0 stays, others become 1: what was greater may be as great, but is never less. */
    private static void neverLessMayBeAsGreat() {
        TwinRuns x = Check.lines(new TwinRuns(), 0, LEAP, 0, 2, 0, END, 0, 0, 0, SET, 0, 1, 0);
        int more = Check.saying(x, "a>a&b=b&c=c&d=d:e");
        int less = Check.saying(x, "a<a&b=b&c=c&d=d:e");
        int rest = ALL - 7;
        Check.due("never less", x.shape(more, 0, 0, 12, 12), rest + 2);
        Check.due("never greater", x.shape(less, 0, 0, 12, 12), rest + 4);
        Check.due("both are set: alike at the end, not there", x.shape(more, 0, 0, 2, 2), rest + 2);
        Check.due("one has ENDED with 0", x.shape(more, 0, 0, 2, 1), rest + 2);
    }

    private static void allBitsIfNoneEverStandsThere() {
        TwinRuns x = still(2, 3);
        int some = Check.saying(x, "a#a:e");
        for (int one = 0; one <= 12; one++) {
            for (int two = 0; two <= 12; two++) {
                boolean stands = one == two && (one < 2 || one == 12) || one == 12 && two == 2;
                Check.due("at " + one + ", " + two, x.shape(some, 0, 1, one, two), stands ? 0 : ALL);
            }
        }
    }

    private static void alwaysWhenAPairStandsThere() {
        // d is doubled, so 0, 1, 2, 3 become 0, 2, 0, 2; those with 2 go round once more
        TwinRuns x = Check.lines(new TwinRuns(), 0, SUM, 3, 3, 3, LEAP, 3, 0, 0, COPY, 0, 0, 0);
        int s = Check.saying(x, "a=a&b=b&c=c&d=d:e");
        Check.due("each time they come there", x.shape(s, 0, 0, 0, 0), ALL);
        int apart = Check.saying(x, "a=a&b=b&c=c&d<d:e");
        Check.due("0 and 2, 2 and 0", x.shape(apart, 0, 0, 1, 1), ALL - (7 << 9));
        Check.due("less at first, 2 and 2 a round later", x.shape(apart, 0, 0, 0, 0), ALL - (7 << 9) + (4 << 9));
    }

    // ---- 17 tell

    private static void numbersOfTell() {
        Check.range("one", (x, n) -> x.tell(n, 0, 9), 0, 12, OUTSIDE);
        Check.range("two", (x, n) -> x.tell(0, n, 9), 0, 12, OUTSIDE);
        Check.range("bits", (x, n) -> x.tell(12, 12, n), 0, ALL, OUTSIDE);
    }

    private static void eachPlaceHasItsOwnShape() {
        TwinRuns x = new TwinRuns();
        for (int place = 0; place < 169; place++) {
            Check.due("at first", x.tell(place / 13, place % 13, 23 * place), ALL);
        }
        for (int place = 0; place < 169; place++) {
            Check.due("told", x.tell(place / 13, place % 13, 0), 23 * place);
        }
    }

    private static void whichShapeItWas() {
        TwinRuns x = new TwinRuns();
        int before = ALL;
        for (int bits : new int[] {0, 4095, 1, 2048, 2048, 0}) {
            Check.due("it was", x.tell(12, 12, bits), before);
            before = bits;
        }
    }

    private static void tellLeavesWhatAWalkFinds() {
        TwinRuns x = still(2, 2);
        x.tell(1, 1, 0);
        Check.due("SHAPE", x.shape(0, 0, 1, 1, 1), ALL);
        Check.due("PLACES", x.walk(0, 0, 1, 0), 3);
        x.wait(1, 1, 1);
        Check.due("told still", x.tell(1, 1, 0), 0);
        x.clear(0);
        Check.due("told still", x.tell(1, 1, 5), 0);
    }

    // ---- 18 fails

    private static void numbersOfFails() {
        Check.range("saying", (x, n) -> x.fails(n, 0, 0), 0, 1, UNKNOWN);
        Check.range("p", (x, n) -> x.fails(0, n, 0), 0, 3, UNKNOWN);
        Check.range("q", (x, n) -> x.fails(0, 0, n), 0, 3, UNKNOWN);
    }

    private static void failsAtEachPlace() {
        TwinRuns x = still(12, 12);
        Check.due("all are kept", x.fails(0, 0, 1), NONE);
        for (int line = 0; line < 12; line++) {
            x.tell(line, line, 0);
            Check.due("side by side", x.fails(0, 0, 1), 101 * line);
            x.tell(line, 12, 0);
            Check.due("the second one has ENDED", x.fails(0, 0, 2), 100 * line + 12);
            x.tell(12, line, 0);
            Check.due("the first one has ENDED", x.fails(0, 2, 1), 1200 + line);
            x.tell(line, line, ALL);
            x.tell(line, 12, ALL);
            x.tell(12, line, ALL);
        }
        Check.due("all are kept", x.fails(0, 0, 1), NONE);
    }

    private static void twelveTwelveIsLeftOut() {
        TwinRuns x = still(1, 1);
        x.tell(12, 12, 0);
        Check.due("nothing is asked at the end", x.fails(0, 0, 1), NONE);
        x.tell(0, 0, 0);
        Check.due("nothing at all", x.fails(0, 0, 1), NONE);
        x.tell(12, 12, 1);
        Check.due("a alike at the end", x.fails(0, 0, 1), 0);
        TwinRuns y = still(0, 0);
        y.tell(12, 12, 1);
        Check.due("12, 12 alone", y.fails(0, 0, 1), NONE);
    }

    /** LINES are stood at in the order 0, 1, 3, 2. */
    private static TwinRuns turning() {
        TwinRuns x = Check.lines(new TwinRuns(), 0, SET, 0, 1, 0, LEAP, 0, 3, 0, END, 0, 0, 0, LEAP, 0, 2, 0);
        Check.saying(x, Check.SAME + "e");
        return x;
    }

    private static void theFirstPlaceByLines() {
        TwinRuns x = turning();
        x.tell(3, 3, 0);
        Check.due("one", x.fails(0, 0, 0), 303);
        x.tell(2, 2, 0);
        Check.due("the lesser LINE, though it comes later", x.fails(0, 0, 0), 202);
        TwinRuns y = turning();
        y.wait(1, 1, 2);
        y.wait(1, 3, 2);
        y.wait(1, 2, 2);
        y.tell(1, 3, 0);
        Check.due("one", y.fails(0, 0, 0), 103);
        y.tell(1, 2, 0);
        Check.due("the lesser LINE of the second one", y.fails(0, 0, 0), 102);
        y.tell(3, 12, 0);
        Check.due("the lesser LINE of the first one goes ahead", y.fails(0, 0, 0), 102);
        y.tell(1, 2, ALL);
        y.tell(1, 3, ALL);
        Check.due("the greater one", y.fails(0, 0, 0), 312);
    }

    private static void placesAtWhichAPairEverStands() {
        TwinRuns x = still(3, 3);
        x.tell(0, 1, 0);
        x.tell(1, 0, 0);
        x.tell(5, 5, 0);
        x.tell(12, 0, 0);
        Check.due("nobody stands there", x.fails(0, 0, 1), NONE);
        x.wait(0, 0, 2);
        Check.due("now somebody does", x.fails(0, 0, 1), 1);
    }

    /** What the bits say of two MEMORIES is looked at for each bit, at both PLACES. */
    private static void allThatTheBitsSay() {
        // what a told SHAPE of one VARIABLE says must come out at the end, for each two of 8 choices
        int[] says = {0, 7, 2, 7, 4, 7, 7, 7};
        for (int v = 0; v < 4; v++) {
            TwinRuns x = still(1, 1);
            for (int here = 0; here < 8; here++) {
                for (int next = 0; next < 8; next++) {
                    x.tell(0, 0, here << (3 * v));
                    x.tell(12, 12, next << (3 * v));
                    boolean kept = (says[next] & ~says[here]) == 0;
                    Check.due(here + " to " + next, x.fails(0, 0, 1), kept ? NONE : 0);
                }
            }
        }
    }

    private static void fromEachTwoMemories() {
        // no PAIR has unlike ones, but two MEMORIES that the bits allow have: 3 and 0 become 0 and 1
        TwinRuns x = Check.lines(new TwinRuns(), 0, SET, 1, 1, 0, SUM, 0, 0, 1);
        int s = Check.saying(x, Check.SAME + "e");
        x.tell(1, 1, ALL - 5);
        x.tell(12, 12, ALL - 5);
        Check.due("never less is not kept by SUM", x.fails(s, 0, 0), 101);
        x.change(0, 1, COPY, 0, 1, 0);
        Check.due("it is by COPY of what is alike", x.fails(s, 0, 0), NONE);
        x.tell(1, 1, ALL);
        x.tell(12, 12, ALL);
        x.change(0, 1, SUM, 0, 0, 1);
        Check.due("alike is kept by SUM", x.fails(s, 0, 0), NONE);
    }

    private static void refusedAndEndedGoToTwelve() {
        TwinRuns x = Check.lines(new TwinRuns(), 0, REST, 0, 0, 1);
        int s = Check.saying(x, Check.SAME + "e");
        x.tell(0, 0, ALL - (7 << 3));
        x.tell(12, 12, ALL - (7 << 3));
        Check.due("REFUSED keeps a, the other one has what is left", x.fails(s, 0, 0), 0);
        x.tell(12, 12, ALL - (7 << 3) - 7);
        Check.due("nothing is said of a", x.fails(s, 0, 0), NONE);
        x.line(0, SHOW, 0, 0, 0);
        x.tell(1, 1, ALL - (7 << 3) - 7);
        Check.due("REFUSED goes to 12, the other one to 1", x.fails(s, 0, 0), 0);
        x.tell(12, 1, ALL - (7 << 3) - 7);
        Check.due("12, 1 is told, 1, 12 is not", x.fails(s, 0, 0), 0);
        x.tell(1, 12, ALL - (7 << 3) - 7);
        Check.due("both are", x.fails(s, 0, 0), NONE);
    }

    private static void oneThatWaitsStays() {
        TwinRuns x = Check.lines(new TwinRuns(), 0, SET, 0, 1, 0);
        int s = Check.saying(x, Check.SAME + "e");
        x.wait(0, 0, 1);
        Check.due("a is set in the first one alone", x.fails(s, 0, 0), 0);
        x.tell(12, 0, ALL - 7);
        Check.due("then in the second one", x.fails(s, 0, 0), 1200);
        x.tell(12, 12, ALL - 7);
        Check.due("nothing is said of a", x.fails(s, 0, 0), NONE);
        x.wait(0, 0, 2);
        Check.due("in the second one alone", x.fails(s, 0, 0), 0);
        x.tell(0, 12, ALL - 7);
        Check.due("then in the first one", x.fails(s, 0, 0), NONE);
        x.wait(0, 0, 1);
        x.tell(0, 0, 0);
        x.tell(12, 12, 0);
        x.tell(12, 0, 4);
        Check.due("1 is greater than 0 alone", x.fails(s, 0, 0), 0);
        x.change(0, 0, SET, 0, 3, 0);
        x.tell(12, 0, 2);
        Check.due("3 is never less", x.fails(s, 0, 0), NONE);
        x.change(0, 0, SET, 0, 2, 0);
        Check.due("2 is less than 3 alone", x.fails(s, 0, 0), 0);
    }

    /** The first one is SPENT with a 1; what ends otherwise ends with a 0, so it is never greater. */
    private static void aSpentOneDoesNotMatter() {
        TwinRuns x = Check.lines(new TwinRuns(), 0, SET, 0, 1, 0, LEAP, 0, 0, 0);
        Check.lines(x, 1, COPY, 0, 0, 0);
        int s = Check.saying(x, Check.SAME + "e");
        x.wait(0, 0, 1);
        x.wait(1, 0, 1);
        Check.due("0 0, 1 0, 12 0, 12 12", x.walk(s, 0, 1, 0), 4);
        x.tell(0, 0, 0);
        x.tell(1, 0, 0);
        x.tell(12, 0, 4);
        x.tell(12, 12, 4);
        Check.due("kept", x.fails(s, 0, 1), NONE);
        x.tell(12, 0, 2);
        Check.due("one that ends with 0 is less", x.fails(s, 0, 1), 100);
        x.tell(12, 0, 4);
        x.tell(12, 12, 2);
        Check.due("12, 0 is stood at by SPENT ones alone", x.fails(s, 0, 1), 1200);
    }

    private static void tellWalks() {
        Check.sentence("14: LINES 0 to 11, WAITS 0 to 2", WalksBoundaryTest::numbersOfWait);
        Check.sentence("14: WAITS at a PLACE", WalksBoundaryTest::eachPlaceHasItsOwnWaits);
        Check.sentence("14: which it was", WalksBoundaryTest::whichWaitItWas);
        Check.sentence("14: 0 both, 1 the first, 2 the second one", WalksBoundaryTest::whoMakesAStep);
        Check.sentence("14: if one has ENDED the other one goes alone", WalksBoundaryTest::waitsAtTheLastLines);
        Check.sentence("14: PLACES that nobody stands at", WalksBoundaryTest::waitsOfPlacesNobodyStandsAt);
        Check.sentence("15: no such SAYING, PROGRAM; what 0 to 2", WalksBoundaryTest::numbersOfWalk);
        Check.sentence("15: the first refusal that fits", WalksBoundaryTest::refusalsOfWalkInOrder);
        Check.sentence("15: PROGRAMS without LINES", WalksBoundaryTest::walksOfEmptyPrograms);
        Check.sentence("15: no PAIRS that are MEANT", WalksBoundaryTest::walksOfNoPairs);
        Check.sentence("15: PROGRAMS of 12 LINES", WalksBoundaryTest::walksOfTwelveLines);
        Check.sentence("15: the most moves till both have ENDED", WalksBoundaryTest::theMostMovesOfSpentOnes);
        Check.sentence("15: 48 moves of each PAIR", WalksBoundaryTest::allArePairsOfSpentOnes);
        Check.sentence("15: PLACES some PAIR stands at", WalksBoundaryTest::thePlacesOfOnePair);
        Check.sentence("15: SPENT behind 24 STEPS of its own", WalksBoundaryTest::eachCountsItsOwnSteps);
        Check.sentence("15: by REFUSED, END at LINE 12", WalksBoundaryTest::refusedAndEndStandAtTwelve);
        Check.sentence("15: behind the last LINE at LINE 12", WalksBoundaryTest::behindTheLastLineIsTwelve);
        Check.sentence("15: of two PROGRAMS by a SAYING", WalksBoundaryTest::oneWalkBehindAnother);
        Check.sentence("16: no such SAYING, PROGRAM; LINES 0 to 12", WalksBoundaryTest::numbersOfShape);
        Check.sentence("16: the first refusal that fits", WalksBoundaryTest::refusalsOfShapeInOrder);
        Check.sentence("16: bits 0 to 11", WalksBoundaryTest::bitsOfEachVariable);
        Check.sentence("16: never less, never greater", WalksBoundaryTest::neverLessMayBeAsGreat);
        Check.sentence("16: all bits, if none ever stands there", WalksBoundaryTest::allBitsIfNoneEverStandsThere);
        Check.sentence("16: always when a PAIR stands there", WalksBoundaryTest::alwaysWhenAPairStandsThere);
    }

    private static void tellShapes() {
        Check.sentence("17: LINES 0 to 12, SHAPES 0 to 4095", WalksBoundaryTest::numbersOfTell);
        Check.sentence("17: a SHAPE for a PLACE", WalksBoundaryTest::eachPlaceHasItsOwnShape);
        Check.sentence("17: which it was", WalksBoundaryTest::whichShapeItWas);
        Check.sentence("17: TOLD SHAPES and SHAPES", WalksBoundaryTest::tellLeavesWhatAWalkFinds);
        Check.sentence("18: no such SAYING, PROGRAM", WalksBoundaryTest::numbersOfFails);
        Check.sentence("18: 100 times the LINE of the first one", WalksBoundaryTest::failsAtEachPlace);
        Check.sentence("18: but 12, 12", WalksBoundaryTest::twelveTwelveIsLeftOut);
        Check.sentence("18: the first PLACE by LINES", WalksBoundaryTest::theFirstPlaceByLines);
        Check.sentence("18: at which a PAIR ever stands", WalksBoundaryTest::placesAtWhichAPairEverStands);
        Check.sentence("18: all that its bits say", WalksBoundaryTest::allThatTheBitsSay);
        Check.sentence("18: from each two MEMORIES", WalksBoundaryTest::fromEachTwoMemories);
        Check.sentence("18: ended ones stand at LINE 12", WalksBoundaryTest::refusedAndEndedGoToTwelve);
        Check.sentence("18: one move of WAITS", WalksBoundaryTest::oneThatWaitsStays);
        Check.sentence("18: a SPENT one does not matter", WalksBoundaryTest::aSpentOneDoesNotMatter);
    }

    public static void main(String[] args) {
        tellWalks();
        tellShapes();
        Check.end("WalksBoundaryTest");
    }
}
