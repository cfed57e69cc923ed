/** The boundary cases of promises 7 to 13, a test for each sentence that names one. */
public final class SayingsBoundaryTest {
    private static final int UNKNOWN = Check.UNKNOWN, OUTSIDE = Check.OUTSIDE, FULL = Check.FULL, NO = Check.NO;
    private static final int NONE = Check.NONE;
    private static final int SET = Check.SET, COPY = Check.COPY, SUM = Check.SUM, LESS = Check.LESS, REST = Check.REST;
    private static final int LEAP = Check.LEAP, SHOW = Check.SHOW, END = Check.END;

    /** A SAYING always has an odd number of signs, so this is the longest: 9 TESTS, a : and one more. */
    private static final String LONGEST = "a=a&".repeat(8) + "a=a:a=a";

    private static int faultOf(String text) {
        return Check.signs(new TwinRuns(), text).fault();
    }

    // ---- 7 say

    private static void codesOfSigns() {
        Check.range("sign", (x, n) -> x.say(n), 33, 126, OUTSIDE);
        for (int sign = 0; sign < 160; sign++) {
            boolean fine = sign >= 33 && sign <= 126;
            TwinRuns x = new TwinRuns();
            Check.due("sign " + sign, x.say(sign), fine ? 1 : OUTSIDE);
            Check.due("signs", x.told(1), fine ? 1 : 0);
        }
    }

    private static void fortySignsAtMost() {
        TwinRuns x = new TwinRuns();
        for (int i = 1; i <= 40; i++) {
            Check.due("how many", x.say(126), i);
        }
        Check.due("one more", x.say(126), FULL);
        Check.due("again", x.say(33), FULL);
        Check.due("signs", x.told(1), 40);
        Check.due("room again", x.wipe(), 40);
        Check.due("the first one", x.say(33), 1);
    }

    private static void outsideAheadOfFull() {
        TwinRuns x = Check.signs(new TwinRuns(), "a=a&".repeat(10));
        for (int sign : new int[] {32, 127, 0, -1, Integer.MIN_VALUE, Integer.MAX_VALUE}) {
            Check.due("sign " + sign, x.say(sign), OUTSIDE);
        }
        Check.due("FULL alone", x.say('a'), FULL);
        Check.due("signs", x.told(1), 40);
        Check.due("more must come still", x.fault(), 40);
    }

    private static void signsStandInTheirOrder() {
        TwinRuns x = new TwinRuns();
        Check.saying(x, "a<b:e");
        Check.due("a of the first, b of the second", x.pair(0, 0, 0, 0, Check.mem(0, 1, 0, 0), 0), 1);
        Check.due("not b of the first", x.pair(0, 0, 0, 0, Check.mem(1, 0, 0, 0), 0), 0);
    }

    // ---- 8 wipe

    private static void wipeTellsHowManyThereWere() {
        for (int count = 0; count <= 40; count++) {
            TwinRuns x = Check.signs(new TwinRuns(), "x".repeat(count));
            Check.due("there were", x.wipe(), count);
            Check.due("there are", x.told(1), 0);
            Check.due("nothing more to go", x.wipe(), 0);
            Check.due("the place of none", x.fault(), 0);
        }
    }

    private static void wipeLeavesTheRest() {
        TwinRuns x = Check.rich();
        Check.due("there were", x.wipe(), 5);
        Check.due("SAYINGS", x.told(0), 2);
        Check.due("LINES", x.told(11), 11);
        Check.due("SILENT ones", x.told(20), 16);
        Check.due("WAITS", x.wait(2, 11, 0), 2);
        Check.due("TOLD SHAPES", x.tell(12, 12, 0), 7);
        Check.due("a new text", Check.saying(x, "b=b:t"), 2);
    }

    // ---- 9 fault

    /** Behind these signs just those ones can stand; with those a text is whole. */
    private static void signsThatCanStandBehind(String head, String can, String whole) {
        for (int sign = 33; sign <= 126; sign++) {
            String text = head + (char) sign;
            boolean ends = whole.indexOf(sign) >= 0;
            boolean stands = ends || can.indexOf(sign) >= 0;
            Check.due(text, faultOf(text), ends ? NONE : stands ? text.length() : head.length());
        }
    }

    private static void firstSignThatCanNotStandThere() {
        signsThatCanStandBehind("", "abcd", "");
        for (String letter : new String[] {"a", "b", "c", "d"}) {
            signsThatCanStandBehind(letter, "=<>#", "");
            signsThatCanStandBehind("a=" + letter, "&:", "");
            signsThatCanStandBehind("a=a:" + letter, "=<>#", "");
            signsThatCanStandBehind("a=a:a=" + letter, "&", "");
        }
        for (String sign : new String[] {"=", "<", ">", "#"}) {
            signsThatCanStandBehind("d" + sign, "abcd", "");
            signsThatCanStandBehind("a=a:d" + sign, "", "abcd");
        }
        signsThatCanStandBehind("a=a&", "abcd", "");
        signsThatCanStandBehind("a=a&b=b", "&:", "");
        signsThatCanStandBehind("a=a:", "abcd", "eot");
        for (String end : new String[] {"e", "o", "t"}) {
            signsThatCanStandBehind("a=a:" + end, "&", "");
            signsThatCanStandBehind("a=a:" + end + "&", "abcd", "eot");
        }
        signsThatCanStandBehind("a=a:a=a&", "abcd", "eot");
    }

    private static void theNumberOfSignsIfMoreMustCome() {
        Check.due("no signs", faultOf(""), 0);
        String text = "a=b&c#d:e&a<b&o";
        for (int i = 0; i <= text.length(); i++) {
            boolean whole = i == 9 || i == 13 || i == 15;
            Check.due(text.substring(0, i), faultOf(text.substring(0, i)), whole ? NONE : i);
        }
    }

    private static void theFirstOfSeveralFaults() {
        Check.due("two", faultOf("a=a::e:"), 4);
        Check.due("the very first", faultOf("xyz"), 0);
        Check.due("what follows does not matter", faultOf("a=e=a:o"), 2);
        Check.due("behind a whole text", faultOf("a=a:oa"), 5);
        Check.due("the last sign", faultOf("a=a:o:"), 5);
        Check.due("a fault ahead of what must come", faultOf("a=a:=a&"), 4);
    }

    private static void faultsOfLongTexts() {
        Check.due("39 signs", LONGEST.length(), 39);
        Check.due("the longest", faultOf(LONGEST), NONE);
        Check.due("a & more", faultOf(LONGEST + "&"), 40);
        Check.due("the 40th can not stand there", faultOf(LONGEST + ":"), 39);
        Check.due("no : yet", faultOf("a=a&".repeat(10)), 40);
        Check.due("many behind", faultOf("a=a:" + "o&".repeat(17) + "t"), NONE);
        Check.due("and a &", faultOf("a=a:" + "o&".repeat(18)), 40);
        Check.due("40 wrong ones", faultOf("=".repeat(40)), 0);
    }

    private static void faultChangesNothing() {
        TwinRuns x = Check.signs(new TwinRuns(), "a=a:");
        Check.due("fault", x.fault(), 4);
        Check.due("again", x.fault(), 4);
        Check.due("signs", x.told(1), 4);
        Check.due("it goes on", x.say('e'), 5);
        Check.due("fault", x.fault(), NONE);
        Check.due("signs", x.told(1), 5);
    }

    // ---- 10 saying

    private static void sixSayingsAtMost() {
        TwinRuns x = new TwinRuns();
        for (int i = 0; i < 6; i++) {
            Check.due("its number", Check.signs(x, "a=a:e").saying(), i);
            Check.due("SAYINGS", x.told(0), i + 1);
            Check.due("signs", x.told(1), 0);
        }
        Check.signs(x, "b=b:t");
        Check.due("the seventh", x.saying(), FULL);
        Check.due("again", x.saying(), FULL);
        Check.due("SAYINGS", x.told(0), 6);
        Check.due("signs", x.told(1), 5);
        Check.due("no seventh", x.holds(6, 0, 0, 0), UNKNOWN);
        Check.due("the sixth", x.holds(5, 0, 0, 0), 0);
    }

    private static void fullAheadOfNo() {
        TwinRuns x = new TwinRuns();
        for (int i = 0; i < 6; i++) {
            Check.saying(x, "a=a:e");
        }
        Check.due("no signs", x.saying(), FULL);
        Check.signs(x, "x");
        Check.due("a FAULT", x.saying(), FULL);
        Check.due("signs", x.told(1), 1);
    }

    private static void noIfThereIsAFault() {
        for (String text : new String[] {"", "a", "a=a", "a=a:", "a=a:e&", "e", "a=a:e:", "a=a:a", LONGEST + "&", "~"}) {
            TwinRuns x = Check.signs(new TwinRuns(), text);
            Check.due(text, x.saying(), NO);
            Check.due("SAYINGS", x.told(0), 0);
            Check.due("signs", x.told(1), text.length());
            Check.due("not there", x.pair(0, 0, 0, 0, 0, 0), UNKNOWN);
        }
        Check.refused("a sign too many", x -> {
            x.say(':');
            int answer = x.saying();
            x.wipe();
            Check.signs(x, "c=c:o");
            return answer;
        }, NO);
    }

    private static void signsAreEmptyThen() {
        TwinRuns x = new TwinRuns();
        Check.saying(x, "a=a:e");
        Check.due("signs", x.told(1), 0);
        Check.due("wiped", x.wipe(), 0);
        Check.due("fault", x.fault(), 0);
        Check.due("none", x.saying(), NO);
        Check.due("the first sign", x.say('b'), 1);
    }

    private static void sayingsStayAsTheyAre() {
        TwinRuns x = new TwinRuns();
        int first = Check.saying(x, "a=a:e");
        int second = Check.saying(x, "a<a:a#a");
        Check.signs(x, "a>a&b=b:t");
        Check.due("=", x.pair(first, 0, 64, 0, 64, 0), 1);
        Check.due("<", x.pair(second, 0, 0, 0, 64, 0), 1);
        x.wipe();
        Check.due("=", x.pair(first, 0, 64, 0, 0, 0), 0);
        Check.due("<", x.pair(second, 0, 64, 0, 64, 0), 0);
    }

    private static void sayingsOfThirtyNineSigns() {
        // eight TESTS ahead of a ninth, then one: each of them counts
        String[] tests = {"a=a", "b=b", "c=c", "d=d", "a<b", "b<c", "c<d", "a<d", "a#d"};
        int one = Check.mem(0, 1, 2, 3);
        TwinRuns x = new TwinRuns();
        int all = Check.saying(x, String.join("&", tests) + ":d=d");
        Check.due("all are so", x.pair(all, 0, one, 0, one, 0), 1);
        for (int last = 0; last < 9; last++) {
            TwinRuns y = new TwinRuns();
            // the TEST at that place asks for the opposite
            String[] other = tests.clone();
            other[last] = other[last].charAt(1) == '=' ? other[last].replace('=', '#') : "d=a";
            int saying = Check.saying(y, String.join("&", other) + ":d=d");
            Check.due("TEST " + last + " is not so", y.pair(saying, 0, one, 0, one, 0), 0);
        }
        TwinRuns z = Check.lines(new TwinRuns(), 0, SHOW, 3, 0, 0);
        int behind = Check.saying(z, "a=a:" + "t&".repeat(17) + "o");
        Check.due("the last TEST is so", z.pair(behind, 0, 0, 0, 4, 1), 0);
        Check.due("the last TEST is not", z.pair(behind, 0, 0, 0, 1, 1), 1);
    }

    // ---- 11 pair

    private static void numbersOfPair() {
        Check.range("saying", (x, n) -> x.pair(n, 0, 0, 0, 0, 0), 0, 1, UNKNOWN);
        Check.range("p", (x, n) -> x.pair(0, n, 0, 0, 0, 0), 0, 3, UNKNOWN);
        Check.range("start", (x, n) -> x.pair(0, 0, n, 0, 0, 0), 0, 255, OUTSIDE);
        Check.range("q", (x, n) -> x.pair(0, 0, 0, n, 0, 0), 0, 3, UNKNOWN);
        Check.range("other", (x, n) -> x.pair(0, 0, 0, 0, n, 0), 0, 255, OUTSIDE);
        Check.range("what", (x, n) -> x.pair(0, 0, 0, 0, 0, n), 0, 1, OUTSIDE);
    }

    private static void refusalsOfPairInOrder() {
        for (int bad : new int[] {-1, 256}) {
            Check.refused("saying and start", (x, n) -> x.pair(n, 0, bad, 0, 0, 0), UNKNOWN, -1, 2);
            Check.refused("saying and other", (x, n) -> x.pair(n, 0, 0, 0, bad, 0), UNKNOWN, -1, 2);
            Check.refused("saying and what", (x, n) -> x.pair(n, 0, 0, 0, 0, bad), UNKNOWN, -1, 2);
            Check.refused("p and start", (x, n) -> x.pair(0, n, bad, 0, 0, 0), UNKNOWN, -1, 4);
            Check.refused("p and other", (x, n) -> x.pair(0, n, 0, 0, bad, 0), UNKNOWN, -1, 4);
            Check.refused("p and what", (x, n) -> x.pair(0, n, 0, 0, 0, bad), UNKNOWN, -1, 4);
            Check.refused("q and start", (x, n) -> x.pair(0, 0, bad, n, 0, 0), UNKNOWN, -1, 4);
            Check.refused("q and other", (x, n) -> x.pair(0, 0, 0, n, bad, 0), UNKNOWN, -1, 4);
            Check.refused("q and what", (x, n) -> x.pair(0, 0, 0, n, 0, bad), UNKNOWN, -1, 4);
        }
    }

    private static void meantIfAllTestsOfStartsAreSo() {
        TwinRuns x = new TwinRuns();
        int all = Check.saying(x, "a=a&b<b&c>c&d#d:e");
        int one = Check.mem(1, 1, 1, 1);
        Check.due("all", x.pair(all, 0, one, 0, Check.mem(1, 2, 0, 0), 0), 1);
        Check.due("not the first", x.pair(all, 0, one, 0, Check.mem(2, 2, 0, 0), 0), 0);
        Check.due("not the second", x.pair(all, 0, one, 0, Check.mem(1, 1, 0, 0), 0), 0);
        Check.due("not the third", x.pair(all, 0, one, 0, Check.mem(1, 2, 1, 0), 0), 0);
        Check.due("not the last", x.pair(all, 0, one, 0, Check.mem(1, 2, 0, 1), 0), 0);
        Check.due("none", x.pair(all, 0, one, 0, Check.mem(0, 0, 2, 1), 0), 0);
    }

    private static void brokenIfMeantAndSomeTestBehindIsNot() {
        TwinRuns x = new TwinRuns();
        int all = Check.saying(x, "a=a:b=b&c=c&d=d");
        int one = Check.mem(1, 1, 1, 1);
        Check.due("all are so", x.pair(all, 0, one, 1, one, 1), 0);
        Check.due("not the first", x.pair(all, 0, one, 1, Check.mem(1, 0, 1, 1), 1), 1);
        Check.due("not the second", x.pair(all, 0, one, 1, Check.mem(1, 1, 2, 1), 1), 1);
        Check.due("not the last", x.pair(all, 0, one, 1, Check.mem(1, 1, 1, 3), 1), 1);
        Check.due("none", x.pair(all, 0, one, 1, Check.mem(1, 0, 0, 0), 1), 1);
        Check.due("not MEANT", x.pair(all, 0, one, 1, Check.mem(0, 0, 0, 0), 1), 0);
    }

    private static void testsAheadAreOfTheStart() {
        TwinRuns x = Check.lines(new TwinRuns(), 0, SET, 0, 2, 0);
        int s = Check.saying(x, "a<a:a=a");
        Check.due("by STARTS", x.pair(s, 0, 0, 0, 64, 0), 1);
        Check.due("as they end they are alike", x.pair(s, 0, 0, 0, 64, 1), 0);
        Check.due("not by MEMORIES as they end", x.pair(s, 1, Check.mem(3, 0, 0, 0), 0, 0, 0), 0);
        Check.due("behind: of MEMORIES as they end", x.pair(s, 1, Check.mem(2, 0, 0, 0), 0, Check.mem(3, 0, 0, 0), 1), 0);
    }

    private static void endsAreAlike() {
        // END 0 from d 0, REFUSED from d 1, SPENT from d 2 and 3
        TwinRuns x = Check.lines(new TwinRuns(), 0, LEAP, 3, 2, 0, END, 0, 0, 0, SET, 2, 1, 0, LESS, 3, 3, 2, LEAP, 3, 6, 0,
            REST, 0, 0, 3, LEAP, 3, 6, 0);
        int[] ends = {0, 1, 2, 2};
        int e = Check.saying(x, "a=a:e");
        for (int one = 0; one < 4; one++) {
            Check.due("END", x.run(0, one, 0), ends[one]);
            for (int two = 0; two < 4; two++) {
                Check.due(one + " and " + two, x.pair(e, 0, one, 0, two, 1), ends[one] == ends[two] ? 0 : 1);
            }
        }
    }

    private static void shownAreAlike() {
        // shows nothing, 0; 0, 0; or 1 by d
        TwinRuns x = Check.lines(new TwinRuns(), 0, LEAP, 0, 3, 0, LEAP, 1, 4, 0, LEAP, 2, 6, 0, SHOW, 3, 0, 0, SHOW, 3, 0, 0);
        int o = Check.saying(x, "d#c:o");
        int two = Check.mem(1, 0, 0, 0);
        int one = Check.mem(0, 1, 0, 0);
        int none = Check.mem(0, 0, 1, 0);
        Check.due("two values", x.run(0, two, 3), 2);
        Check.due("one value", x.run(0, one, 3), 1);
        Check.due("no value", x.run(0, none, 3), 0);
        int[] rows = {two + 1, one + 1, none + 1, two + 2, one + 2};
        for (int i = 0; i < 5; i++) {
            for (int j = 0; j < 5; j++) {
                boolean meant = rows[i] % 4 != rows[j] / 4 % 4;
                Check.due(i + " and " + j, x.pair(o, 0, rows[i], 0, rows[j], 1), meant && i != j ? 1 : 0);
            }
        }
        int zeros = Check.saying(x, "d=d:o");
        Check.due("0 and 0, 0", x.pair(zeros, 0, one, 0, two, 1), 1);
        Check.due("nothing and 0", x.pair(zeros, 0, none, 0, one, 1), 1);
        Check.due("nothing and nothing", x.pair(zeros, 0, none, 1, none, 1), 0);
        x.silent(0, 16);
        Check.due("the second 0 is SILENT", x.pair(zeros, 0, two, 0, two, 1), 0);
        Check.due("SILENT is nothing shown", x.pair(zeros, 0, one, 0, none, 1), 0);
    }

    private static void asManySteps() {
        TwinRuns x = Check.lines(new TwinRuns(), 0, LEAP, 3, 0, 0);
        Check.many(x, 1, 1, LEAP, 3, 2, 0);
        int t = Check.saying(x, "a=a:t");
        Check.due("1 and 1", x.pair(t, 0, 0, 1, 1, 1), 0);
        Check.due("0 and 1", x.pair(t, 2, 0, 1, 1, 1), 1);
        Check.due("24 and 1", x.pair(t, 0, 1, 1, 1, 1), 1);
        Check.due("24 and 24", x.pair(t, 0, 1, 0, 3, 1), 0);
        Check.due("24 and 0", x.pair(t, 0, 1, 3, 3, 1), 1);
        x.line(1, COPY, 0, 0, 0);
        Check.due("1 and 2", x.pair(t, 0, 0, 1, 0, 1), 1);
    }

    private static void anyTwoNumbersOfSteps() {
        for (int count = 0; count <= 12; count++) {
            TwinRuns x = Check.many(new TwinRuns(), 0, count, COPY, 0, 0, 0);
            Check.lines(x, 2, LEAP, 3, 0, 0);
            int t = Check.saying(x, "a=a:t");
            for (int other = 0; other <= 12; other++) {
                Check.due(count + " and " + other, x.pair(t, 0, 0, 1, 0, 1), count == other ? 0 : 1);
                x.line(1, COPY, 0, 0, 0);
            }
            Check.due(count + " and 24", x.pair(t, 0, 0, 2, 1, 1), 1);
        }
    }

    /** 24 STEPS to the end are as many as 24 that are SPENT, but those ENDS are unlike. */
    private static void asManyStepsAndOtherEnds() {
        TwinRuns x = longOnes(3);
        x.line(1, COPY, 0, 0, 0);
        int start = Check.mem(0, 0, 1, 3);
        int t = Check.saying(x, "a=a:t");
        int e = Check.saying(x, "a=a:e");
        Check.due("behind the last LINE", x.run(0, start, 0), 0);
        Check.due("SPENT", x.run(1, start, 0), 2);
        Check.due("as many", x.pair(t, 0, start, 1, start, 1), 0);
        Check.due("unlike", x.pair(e, 0, start, 1, start, 1), 1);
        x.change(0, 9, REST, 0, 0, 0);
        Check.due("REFUSED", x.run(0, start, 0), 1);
        Check.due("as many", x.pair(t, 0, start, 1, start, 1), 0);
        Check.due("unlike", x.pair(e, 0, start, 1, start, 1), 1);
    }

    // ---- 12 holds

    private static void numbersOfHolds() {
        Check.range("saying", (x, n) -> x.holds(n, 0, 0, 0), 0, 1, UNKNOWN);
        Check.range("p", (x, n) -> x.holds(0, n, 0, 0), 0, 3, UNKNOWN);
        Check.range("q", (x, n) -> x.holds(0, 0, n, 0), 0, 3, UNKNOWN);
        Check.range("what", (x, n) -> x.holds(0, 0, 0, n), 0, 3, OUTSIDE);
    }

    private static void refusalsOfHoldsInOrder() {
        for (int bad : new int[] {-1, 4}) {
            Check.refused("saying and what", (x, n) -> x.holds(n, 0, 0, bad), UNKNOWN, -1, 2);
            Check.refused("p and what", (x, n) -> x.holds(0, n, 0, bad), UNKNOWN, -1, 4);
            Check.refused("q and what", (x, n) -> x.holds(0, 0, n, bad), UNKNOWN, -1, 4);
        }
    }

    /** PROGRAM 1 is REFUSED from START 0 alone. */
    private static void onlyTheFirstPairIsBroken() {
        TwinRuns x = Check.lines(new TwinRuns(), 1, LEAP, 0, 12, 0, LEAP, 1, 12, 0, LEAP, 2, 12, 0, LEAP, 3, 12, 0,
            REST, 0, 0, 0);
        int e = Check.saying(x, Check.SAME + "e");
        Check.due("BROKEN", x.holds(e, 0, 1, 0), 1);
        Check.due("the first one", x.holds(e, 0, 1, 1), 0);
        Check.due("MEANT", x.holds(e, 0, 1, 2), 256);
        Check.due("LONE", x.holds(e, 0, 1, 3), 0);
    }

    /** PROGRAM 1 is REFUSED from START 255 alone: all are alike, and one more than a is 0. */
    private static void onlyTheLastPairIsBroken() {
        TwinRuns x = Check.lines(new TwinRuns(), 1, LESS, 1, 1, 0, LESS, 2, 2, 0, LESS, 3, 3, 0, LEAP, 1, 12, 0, LEAP, 2, 12, 0,
            LEAP, 3, 12, 0, SET, 1, 1, 0, SUM, 0, 0, 1, LEAP, 0, 12, 0, REST, 0, 0, 0);
        int e = Check.saying(x, Check.SAME + "e");
        Check.due("BROKEN", x.holds(e, 0, 1, 0), 1);
        Check.due("256 times 255, and 255", x.holds(e, 0, 1, 1), 65535);
        Check.due("LONE", x.holds(e, 0, 1, 3), 255);
        Check.due("the other way", x.holds(e, 1, 0, 1), 65535);
        Check.due("with itself", x.holds(e, 1, 1, 0), 0);
    }

    private static void theFirstBrokenPairByStartThenOther() {
        TwinRuns x = new TwinRuns();
        int s = Check.saying(x, "d>c:a#a");
        // d of the first above c of the second: from START 1 on, and the other is 0
        Check.due("the first one", x.holds(s, 0, 0, 1), 256);
        int t = Check.saying(x, "d<d:a=a");
        Check.due("another START of the same first one", x.holds(t, 0, 0, 1), Check.mem(1, 0, 0, 1));
    }

    private static void noPairIsBroken() {
        TwinRuns x = new TwinRuns();
        int s = Check.saying(x, "a=a:a=a");
        Check.due("BROKEN", x.holds(s, 0, 0, 0), 0);
        Check.due("no first one", x.holds(s, 0, 0, 1), NONE);
        Check.due("FOR SOME", x.holds(s, 0, 0, 3), NONE);
        Check.due("MEANT", x.holds(s, 0, 0, 2), 16384);
    }

    private static void allMeantPairsAreBroken() {
        TwinRuns x = new TwinRuns();
        int s = Check.saying(x, "a#b:a=b");
        Check.due("MEANT", x.holds(s, 0, 0, 2), 49152);
        Check.due("BROKEN", x.holds(s, 0, 0, 0), 49152);
        Check.due("LONE", x.holds(s, 0, 0, 3), 0);
    }

    private static void noPairIsMeant() {
        TwinRuns x = new TwinRuns();
        int s = Check.saying(x, "a<a&a>a:e");
        Check.due("MEANT", x.holds(s, 0, 0, 2), 0);
        Check.due("BROKEN", x.holds(s, 0, 0, 0), 0);
        Check.due("no first one", x.holds(s, 0, 0, 1), NONE);
        Check.due("LONE", x.holds(s, 0, 0, 3), 0);
        int t = Check.saying(x, "a<a:e");
        Check.due("a of 3 has none", x.holds(t, 0, 0, 3), Check.mem(3, 0, 0, 0));
        int u = Check.saying(x, "d<d&c<c&b<b&a<a:e");
        Check.due("d of 3 has none", x.holds(u, 0, 0, 3), 3);
    }

    private static void brokenPairsAheadOfALoneStart() {
        // PROGRAM 1 ends with a 1 from d 0 and with a 0 from others
        TwinRuns x = Check.lines(new TwinRuns(), 1, LEAP, 3, 3, 0, SET, 0, 1, 0, END, 0, 0, 0, SET, 0, 0, 0);
        int s = Check.saying(x, "b=b:a=a");
        Check.due("some are BROKEN from 0 on", x.holds(s, 0, 1, 1), 0);
        Check.due("but a of 2 is the first that has none", x.holds(s, 0, 1, 3), Check.mem(2, 0, 0, 0));
        int t = Check.saying(x, "b=b:a<a");
        Check.due("0 is below 1, 1 is not", x.holds(t, 0, 1, 3), Check.mem(1, 0, 0, 0));
        int u = Check.saying(x, "b#b:a#a");
        Check.due("each has one", x.holds(u, 0, 1, 3), NONE);
        Check.due("though some are BROKEN", x.holds(u, 0, 1, 0), 64 * 144 + 64 * 48);
    }

    private static void sayingsOfTwoPrograms() {
        TwinRuns x = Check.lines(new TwinRuns(), 0, SET, 0, 0, 0);
        Check.lines(x, 1, SET, 0, 1, 0);
        int s = Check.saying(x, "a=a:a<a");
        Check.due("0 below 1", x.holds(s, 0, 1, 0), 0);
        Check.due("1 not below 0", x.holds(s, 1, 0, 0), 16384);
        Check.due("0 not below 0", x.holds(s, 0, 0, 0), 16384);
        Check.due("the four", x.holds(s, 0, 3, 3), 0);
    }

    private static TwinRuns fourPrograms() {
        TwinRuns x = Check.lines(new TwinRuns(), 1, SET, 0, 1, 0);
        Check.lines(x, 2, SET, 0, 2, 0);
        Check.lines(x, 3, COPY, 0, 1, 0);
        Check.saying(x, "a=a:a=a");
        Check.saying(x, "a<a:a<a");
        return x;
    }

    private static void oneQuestionBehindAnother() {
        Check.anyOrder(2, SayingsBoundaryTest::fourPrograms, (x, n, p, q) -> x.holds(n, p, q, 0));
        Check.due("a stays", fourPrograms().holds(0, 0, 0, 0), 0);
        Check.due("a is 2", fourPrograms().holds(0, 2, 2, 0), 0);
        Check.due("a is 1, and 2", fourPrograms().holds(0, 1, 2, 0), 16384);
        Check.due("1 is below 2", fourPrograms().holds(1, 1, 2, 0), 0);
        Check.due("2 is not below 2", fourPrograms().holds(1, 2, 2, 0), 24576);
    }

    // ---- 13 part

    private static void numbersOfPart() {
        Check.range("p", (x, n) -> x.part(n, 0, 0, 0), 0, 3, UNKNOWN);
        Check.range("start", (x, n) -> x.part(0, n, 0, 0), 0, 255, OUTSIDE);
        Check.range("q", (x, n) -> x.part(0, 0, n, 0), 0, 3, UNKNOWN);
        Check.range("other", (x, n) -> x.part(0, 0, 0, n), 0, 255, OUTSIDE);
    }

    private static void refusalsOfPartInOrder() {
        for (int bad : new int[] {-1, 256}) {
            Check.refused("p and start", (x, n) -> x.part(n, bad, 0, 0), UNKNOWN, -1, 4);
            Check.refused("p and other", (x, n) -> x.part(n, 0, 0, bad), UNKNOWN, -1, 4);
            Check.refused("q and start", (x, n) -> x.part(0, bad, n, 0), UNKNOWN, -1, 4);
            Check.refused("q and other", (x, n) -> x.part(0, 0, n, bad), UNKNOWN, -1, 4);
        }
    }

    private static void partAtTheFirstStep() {
        TwinRuns x = Check.lines(new TwinRuns(), 0, END, 0, 0, 0);
        Check.due("one has ENDED ahead of STEP 0", x.part(0, 0, 1, 0), 0);
        Check.due("the other way", x.part(1, 0, 0, 0), 0);
        Check.due("both have", x.part(1, 0, 2, 255), NONE);
        Check.due("both end by one STEP", x.part(0, 0, 0, 255), NONE);
        Check.lines(x, 2, COPY, 0, 0, 0);
        Check.due("END, and behind the last LINE", x.part(0, 0, 2, 0), NONE);
        Check.lines(x, 3, REST, 0, 0, 0);
        Check.due("END, and REFUSED", x.part(0, 0, 3, 0), NONE);
    }

    private static void partAtEachLine() {
        for (int line = 0; line < 12; line++) {
            TwinRuns x = Check.many(new TwinRuns(), 0, line, COPY, 0, 0, 0);
            Check.many(x, 1, 12, COPY, 0, 0, 0);
            Check.due("ENDED behind " + line, x.part(0, 0, 1, 0), line);
            Check.due("the other way", x.part(1, 0, 0, 0), line);
            x.change(1, line, LEAP, 3, 0, 0);
            Check.due("a LEAP of one", x.part(1, 0, 1, 1), line + 1);
        }
        TwinRuns y = Check.many(new TwinRuns(), 0, 12, COPY, 0, 0, 0);
        Check.due("never", y.part(0, 0, 0, 255), NONE);
    }

    /** Two PROGRAMS alike: from c 1, d 3 they make 21 STEPS in three rounds, and then those of a tail. */
    private static TwinRuns longOnes(int tail) {
        TwinRuns x = new TwinRuns();
        for (int p = 0; p < 2; p++) {
            Check.lines(x, p, LESS, 3, 3, 2);
            Check.many(x, p, 5, COPY, 0, 0, 0);
            Check.lines(x, p, LEAP, 3, 0, 0);
            Check.many(x, p, tail, COPY, 0, 0, 0);
        }
        return x;
    }

    private static void partAtTheLastSteps() {
        int start = Check.mem(0, 0, 1, 3);
        TwinRuns x = longOnes(2);
        x.line(1, COPY, 0, 0, 0);
        Check.due("23 and 24 STEPS", x.part(0, start, 1, start), 23);
        x.line(1, COPY, 0, 0, 0);
        Check.due("23 STEPS and SPENT", x.part(0, start, 1, start), 23);
        x.line(0, COPY, 0, 0, 0);
        Check.due("24 STEPS and SPENT: both have ENDED", x.part(0, start, 1, start), NONE);
        x.line(0, COPY, 0, 0, 0);
        Check.due("both are SPENT", x.part(0, start, 1, start), NONE);
        x.change(0, 9, END, 0, 0, 0);
        Check.due("END as the 24th, and SPENT", x.part(0, start, 1, start), NONE);
        x.change(0, 9, LEAP, 2, 0, 0);
        Check.due("SPENT at other LINES", x.part(0, start, 1, start), NONE);
        x.change(0, 8, LEAP, 2, 0, 0);
        Check.due("other LINES ahead of STEP 23", x.part(0, start, 1, start), 23);
    }

    private static void tellSigns() {
        Check.sentence("7: codes 33 to 126", SayingsBoundaryTest::codesOfSigns);
        Check.sentence("7: up to 40 signs", SayingsBoundaryTest::fortySignsAtMost);
        Check.sentence("7: the first refusal that fits", SayingsBoundaryTest::outsideAheadOfFull);
        Check.sentence("7: a sign more", SayingsBoundaryTest::signsStandInTheirOrder);
        Check.sentence("8: how many there were", SayingsBoundaryTest::wipeTellsHowManyThereWere);
        Check.sentence("8: signs go", SayingsBoundaryTest::wipeLeavesTheRest);
        Check.sentence("9: the first sign that can not stand there", SayingsBoundaryTest::firstSignThatCanNotStandThere);
        Check.sentence("9: if more must come", SayingsBoundaryTest::theNumberOfSignsIfMoreMustCome);
        Check.sentence("9: the first one", SayingsBoundaryTest::theFirstOfSeveralFaults);
        Check.sentence("9: texts of up to 40 signs", SayingsBoundaryTest::faultsOfLongTexts);
        Check.sentence("9: THE FAULT is asked for", SayingsBoundaryTest::faultChangesNothing);
        Check.sentence("10: SAYINGS, 6 at most, from 0 on", SayingsBoundaryTest::sixSayingsAtMost);
        Check.sentence("10: the first refusal that fits", SayingsBoundaryTest::fullAheadOfNo);
        Check.sentence("10: NO: there is a FAULT", SayingsBoundaryTest::noIfThereIsAFault);
        Check.sentence("10: signs are empty then", SayingsBoundaryTest::signsAreEmptyThen);
        Check.sentence("10: SAYINGS stay", SayingsBoundaryTest::sayingsStayAsTheyAre);
        Check.sentence("10: the longest texts", SayingsBoundaryTest::sayingsOfThirtyNineSigns);
    }

    private static void tellPairs() {
        Check.sentence("11: no such SAYING, PROGRAM; START 0 to 255", SayingsBoundaryTest::numbersOfPair);
        Check.sentence("11: the first refusal that fits", SayingsBoundaryTest::refusalsOfPairInOrder);
        Check.sentence("11: MEANT if all TESTS are so", SayingsBoundaryTest::meantIfAllTestsOfStartsAreSo);
        Check.sentence("11: BROKEN if some TEST is not", SayingsBoundaryTest::brokenIfMeantAndSomeTestBehindIsNot);
        Check.sentence("11: of the START, of what they come to", SayingsBoundaryTest::testsAheadAreOfTheStart);
        Check.sentence("11: e: ENDS are alike", SayingsBoundaryTest::endsAreAlike);
        Check.sentence("11: o: SHOWN are alike", SayingsBoundaryTest::shownAreAlike);
        Check.sentence("11: t: as many STEPS", SayingsBoundaryTest::asManySteps);
        Check.sentence("11: t of all numbers of STEPS", SayingsBoundaryTest::anyTwoNumbersOfSteps);
        Check.sentence("11: t and e of 24 STEPS", SayingsBoundaryTest::asManyStepsAndOtherEnds);
        Check.sentence("12: no such SAYING, PROGRAM; what 0 to 3", SayingsBoundaryTest::numbersOfHolds);
        Check.sentence("12: the first refusal that fits", SayingsBoundaryTest::refusalsOfHoldsInOrder);
        Check.sentence("12: BROKEN is the first PAIR alone", SayingsBoundaryTest::onlyTheFirstPairIsBroken);
        Check.sentence("12: BROKEN is the last PAIR alone", SayingsBoundaryTest::onlyTheLastPairIsBroken);
        Check.sentence("12: 256 times the first, and the other", SayingsBoundaryTest::theFirstBrokenPairByStartThenOther);
        Check.sentence("12: HOLDS if no PAIR is BROKEN", SayingsBoundaryTest::noPairIsBroken);
        Check.sentence("12: all PAIRS are BROKEN", SayingsBoundaryTest::allMeantPairsAreBroken);
        Check.sentence("12: no PAIR is MEANT", SayingsBoundaryTest::noPairIsMeant);
        Check.sentence("12: LONE: the first START", SayingsBoundaryTest::brokenPairsAheadOfALoneStart);
        Check.sentence("12: for two PROGRAMS", SayingsBoundaryTest::sayingsOfTwoPrograms);
        Check.sentence("12: of a SAYING for two PROGRAMS", SayingsBoundaryTest::oneQuestionBehindAnother);
        Check.sentence("13: no such PROGRAM; START 0 to 255", SayingsBoundaryTest::numbersOfPart);
        Check.sentence("13: the first refusal that fits", SayingsBoundaryTest::refusalsOfPartInOrder);
        Check.sentence("13: STEPS from 0 on", SayingsBoundaryTest::partAtTheFirstStep);
        Check.sentence("13: unlike LINES, or one has ENDED", SayingsBoundaryTest::partAtEachLine);
        Check.sentence("13: the last STEPS", SayingsBoundaryTest::partAtTheLastSteps);
    }

    public static void main(String[] args) {
        tellSigns();
        tellPairs();
        Check.end("SayingsBoundaryTest");
    }
}
