import java.util.Arrays;

/**
 * Small programs whose every start is run, and what can be said of two of their runs at once.
 *
 * A state inside is one number: the LINE at which a run stands times 256, and its MEMORY.
 */
public final class TwinRuns {
    public static final int UNKNOWN = -1, OUTSIDE = -2, STATE = -3, FULL = -4, NO = -5, NONE = -6;

    private static final int PROGRAMS = 4;
    private static final int LINES = 12;
    private static final int SAYINGS = 6;
    private static final int SIGNS = 40;
    private static final int STEPS = 24;
    private static final int MEMORIES = 256;
    private static final int ALL_BITS = 4095;
    private static final int SHOWS_TO_TRY = 6;

    /** The LINE at which a run that has ENDED stands. */
    private static final int GONE = 12;
    private static final int SIDE = 13;
    private static final int PLACES = SIDE * SIDE;
    private static final int LAST_PLACE = PLACES - 1;

    private static final int SET = 0, COPY = 1, SUM = 2, LESS = 3, REST = 4, LEAP = 5, SHOW = 6, END = 7;
    private static final int BY_END = 0, REFUSED = 1, SPENT = 2;

    private final Program[] programs;
    private final Saying[] sayings;
    private int sayingCount;
    private final Saying draft;
    private final Asked asked;
    private final Pairs pairs;
    private final Silencer silencer;
    private final Walker walker;
    private final Meeting meeting;

    public TwinRuns() {
        Forms forms = new Forms();
        programs = new Program[PROGRAMS];
        for (int i = 0; i < PROGRAMS; i++) {
            programs[i] = new Program(forms);
        }
        sayings = new Saying[SAYINGS];
        for (int i = 0; i < SAYINGS; i++) {
            sayings[i] = new Saying();
        }
        sayingCount = 0;
        draft = new Saying();
        asked = new Asked(forms);
        pairs = new Pairs(asked);
        silencer = new Silencer(asked);
        walker = new Walker(forms);
        meeting = new Meeting();
    }

    // ---- 1 runs

    public int line(int program, int act, int a, int b, int c) {
        if (!isProgram(program)) {
            return UNKNOWN;
        }
        if (!isAct(act, a, b, c)) {
            return OUTSIDE;
        }
        Program told = programs[program];
        if (told.size >= LINES) {
            return FULL;
        }
        int number = told.size;
        told.size = number + 1;
        told.put(number, act, a, b, c);
        forget();
        return number;
    }

    public int change(int program, int line, int act, int a, int b, int c) {
        if (!isProgram(program) || line < 0 || line >= programs[program].size) {
            return UNKNOWN;
        }
        if (!isAct(act, a, b, c)) {
            return OUTSIDE;
        }
        Program told = programs[program];
        int before = told.act[line];
        told.put(line, act, a, b, c);
        forget();
        return before;
    }

    public int clear(int program) {
        if (!isProgram(program)) {
            return UNKNOWN;
        }
        Program told = programs[program];
        int before = told.size;
        told.size = 0;
        told.hush(0);
        forget();
        return before;
    }

    public int silent(int program, int lines) {
        if (!isProgram(program)) {
            return UNKNOWN;
        }
        if (!isWithin(lines, ALL_BITS)) {
            return OUTSIDE;
        }
        Program told = programs[program];
        int before = told.hushed;
        told.hush(lines);
        forget();
        return before;
    }

    public int run(int program, int start, int what) {
        if (!isProgram(program)) {
            return UNKNOWN;
        }
        boolean aboutShown = what >= 10 && what < 10 + STEPS;
        if (!isMemory(start) || !(isWithin(what, 3) || aboutShown)) {
            return OUTSIDE;
        }
        Program told = programs[program];
        told.trace(start);
        switch (what) {
            case 0:
                return told.endOf[start];
            case 1:
                return told.lastOf[start];
            case 2:
                return told.stepsOf[start];
            case 3:
                return told.showedOf[start];
            default:
                return told.shownAt(start, what - 10);
        }
    }

    // ---- 2 sayings

    public int say(int sign) {
        if (sign < 33 || sign > 126) {
            return OUTSIDE;
        }
        if (draft.size >= SIGNS) {
            return FULL;
        }
        draft.signs[draft.size] = sign;
        draft.size++;
        return draft.size;
    }

    public int wipe() {
        int before = draft.size;
        draft.size = 0;
        return before;
    }

    public int fault() {
        return draft.firstFault();
    }

    public int saying() {
        if (sayingCount >= SAYINGS) {
            return FULL;
        }
        if (draft.firstFault() != NONE) {
            return NO;
        }
        sayings[sayingCount].take(draft);
        draft.size = 0;
        sayingCount++;
        return sayingCount - 1;
    }

    public int pair(int saying, int p, int start, int q, int other, int what) {
        if (!isSaying(saying) || !isProgram(p) || !isProgram(q)) {
            return UNKNOWN;
        }
        if (!isMemory(start) || !isMemory(other) || !isWithin(what, 1)) {
            return OUTSIDE;
        }
        programs[p].trace(start);
        programs[q].trace(other);
        asked.take(sayings[saying], programs[p], start);
        boolean yes = asked.isMeant(other) && (what == 0 || asked.isBroken(programs[q], other));
        return yes ? 1 : 0;
    }

    public int holds(int saying, int p, int q, int what) {
        if (!isSaying(saying) || !isProgram(p) || !isProgram(q)) {
            return UNKNOWN;
        }
        if (!isWithin(what, 3)) {
            return OUTSIDE;
        }
        int key = keyOf(saying, p, q);
        if (pairs.key != key) {
            pairs.judge(sayings[saying], programs[p], programs[q]);
            pairs.key = key;
        }
        switch (what) {
            case 0:
                return pairs.broken;
            case 1:
                return pairs.firstBroken;
            case 2:
                return pairs.meant;
            default:
                return pairs.lone;
        }
    }

    public int part(int p, int start, int q, int other) {
        if (!isProgram(p) || !isProgram(q)) {
            return UNKNOWN;
        }
        if (!isMemory(start) || !isMemory(other)) {
            return OUTSIDE;
        }
        programs[p].trace(start);
        programs[q].trace(other);
        for (int step = 0; step <= STEPS; step++) {
            int one = programs[p].lineAhead(start, step);
            int two = programs[q].lineAhead(other, step);
            if (one != two) {
                return step;
            }
        }
        return NONE;
    }

    // ---- 3 walks

    public int wait(int one, int two, int how) {
        if (!isWithin(one, LINES - 1) || !isWithin(two, LINES - 1) || !isWithin(how, 2)) {
            return OUTSIDE;
        }
        int place = one * SIDE + two;
        int before = walker.waits[place];
        walker.waits[place] = how;
        forget();
        return before;
    }

    public int walk(int saying, int p, int q, int what) {
        if (!isSaying(saying) || !isProgram(p) || !isProgram(q)) {
            return UNKNOWN;
        }
        if (!isWithin(what, 2)) {
            return OUTSIDE;
        }
        makeWalk(saying, p, q);
        switch (what) {
            case 0:
                return walker.countPlaces();
            case 1:
                return walker.countUnlike();
            default:
                return walker.mostMoves;
        }
    }

    public int shape(int saying, int p, int q, int one, int two) {
        if (!isSaying(saying) || !isProgram(p) || !isProgram(q)) {
            return UNKNOWN;
        }
        if (!isWithin(one, GONE) || !isWithin(two, GONE)) {
            return OUTSIDE;
        }
        makeWalk(saying, p, q);
        return walker.shapes[one * SIDE + two];
    }

    public int tell(int one, int two, int bits) {
        if (!isWithin(one, GONE) || !isWithin(two, GONE) || !isWithin(bits, ALL_BITS)) {
            return OUTSIDE;
        }
        int place = one * SIDE + two;
        int before = walker.toldShapes[place];
        walker.toldShapes[place] = bits;
        return before;
    }

    public int fails(int saying, int p, int q) {
        if (!isSaying(saying) || !isProgram(p) || !isProgram(q)) {
            return UNKNOWN;
        }
        makeWalk(saying, p, q);
        return walker.firstFailing(programs[p], programs[q]);
    }

    // ---- 4 more

    public int so(int saying, int program, int what) {
        if (!isSaying(saying) || !isProgram(program)) {
            return UNKNOWN;
        }
        if (!isWithin(what, 1)) {
            return OUTSIDE;
        }
        Program told = programs[program];
        if (Integer.bitCount(told.loudLines()) > SHOWS_TO_TRY) {
            return STATE;
        }
        int lines = silencer.fewest(sayings[saying], told);
        if (lines == NONE) {
            return NO;
        }
        return what == 0 ? lines : Integer.bitCount(lines);
    }

    public int fit(int program, int start, int set, int n, int what) {
        if (!isProgram(program)) {
            return UNKNOWN;
        }
        if (!isMemory(start) || !isWithin(set, 15) || !isWithin(n, STEPS) || !isWithin(what, 1)) {
            return OUTSIDE;
        }
        Program told = programs[program];
        int digits = digitsOf(set);
        int count = 0;
        int first = NONE;
        told.trace(start);
        for (int other = 0; other < MEMORIES; other++) {
            if (((other ^ start) & digits) != 0) {
                continue;
            }
            told.trace(other);
            if (told.beginAlike(start, other, n)) {
                count++;
                first = first == NONE ? other : first;
            }
        }
        return what == 0 ? count : first;
    }

    public int far(int program, int x, int y, int d) {
        if (!isProgram(program)) {
            return UNKNOWN;
        }
        if (!isWithin(x, 3) || !isWithin(y, 3) || d < 1 || d > 3) {
            return OUTSIDE;
        }
        Program told = programs[program];
        told.traceAll();
        int greatest = 0;
        for (int start = 0; start < MEMORIES; start++) {
            int value = valueOf(start, x);
            int here = valueOf(told.lastOf[start], y);
            int top = Math.min(3, value + d);
            for (int more = value + 1; more <= top; more++) {
                int other = withValue(start, x, more);
                int there = valueOf(told.lastOf[other], y);
                greatest = Math.max(greatest, Math.abs(here - there));
            }
        }
        return greatest;
    }

    public int changed(int p, int q, int what) {
        if (!isProgram(p) || !isProgram(q)) {
            return UNKNOWN;
        }
        if (!isWithin(what, 2)) {
            return OUTSIDE;
        }
        Program old = programs[p];
        Program young = programs[q];
        if (what == 2) {
            return old.unlikeLines(young);
        }
        old.traceAll();
        young.traceAll();
        int count = 0;
        int first = NONE;
        for (int start = 0; start < MEMORIES; start++) {
            long apart = (old.comesTo[start] ^ young.comesTo[start]) & (Program.SHOWN_PART | Program.END_PART);
            if (apart != 0L || old.lastOf[start] != young.lastOf[start]) {
                count++;
                first = first == NONE ? start : first;
            }
        }
        return what == 0 ? count : first;
    }

    public int orders(int p, int q, int memory, int what) {
        if (!isProgram(p) || !isProgram(q)) {
            return UNKNOWN;
        }
        boolean aboutOne = what >= 10 && what < 10 + MEMORIES;
        if (!isMemory(memory) || !(isWithin(what, 1) || aboutOne)) {
            return OUTSIDE;
        }
        int key = keyOf(memory, p, q);
        if (meeting.key != key) {
            meeting.reach(programs[p], programs[q], memory);
            meeting.key = key;
        }
        switch (what) {
            case 0:
                return meeting.countEnds();
            case 1:
                return meeting.leastEnd();
            default:
                return meeting.isEnd(what - 10) ? 1 : 0;
        }
    }

    public int told(int what) {
        if (what == 0) {
            return sayingCount;
        }
        if (what == 1) {
            return draft.size;
        }
        if (isProgram(what - 10)) {
            return programs[what - 10].size;
        }
        if (isProgram(what - 20)) {
            return programs[what - 20].hushed;
        }
        return OUTSIDE;
    }

    // ---- what the calls share

    private static boolean isWithin(int number, int top) {
        return number >= 0 && number <= top;
    }

    private static boolean isProgram(int program) {
        return isWithin(program, PROGRAMS - 1);
    }

    private static boolean isMemory(int memory) {
        return isWithin(memory, MEMORIES - 1);
    }

    private boolean isSaying(int saying) {
        return isWithin(saying, sayingCount - 1);
    }

    private static boolean isAct(int act, int a, int b, int c) {
        switch (act) {
            case SET:
            case COPY:
                return isWithin(a, 3) && isWithin(b, 3) && c == 0;
            case SUM:
            case LESS:
            case REST:
                return isWithin(a, 3) && isWithin(b, 3) && isWithin(c, 3);
            case LEAP:
                return isWithin(a, 3) && isWithin(b, LINES) && c == 0;
            case SHOW:
                return isWithin(a, 3) && b == 0 && c == 0;
            case END:
                return a == 0 && b == 0 && c == 0;
            default:
                return false;
        }
    }

    private static int keyOf(int number, int p, int q) {
        return (number * PROGRAMS + p) * PROGRAMS + q;
    }

    /** What was found out of pairs, walks and orders is kept only until a LINE or a WAIT is told. */
    private void forget() {
        pairs.key = NONE;
        walker.key = NONE;
        meeting.key = NONE;
    }

    private void makeWalk(int saying, int p, int q) {
        int key = keyOf(saying, p, q);
        if (walker.key != key) {
            walker.walkAll(sayings[saying], programs[p], programs[q]);
            walker.key = key;
        }
    }

    private static int valueOf(int memory, int variable) {
        return (memory >> (6 - 2 * variable)) & 3;
    }

    private static int withValue(int memory, int variable, int value) {
        int shift = 6 - 2 * variable;
        return (memory & ~(3 << shift)) | ((value & 3) << shift);
    }

    /** The bits of a MEMORY that belong to a set of VARIABLES. */
    private static int digitsOf(int set) {
        int bits = 0;
        for (int v = 0; v < 4; v++) {
            if ((set >> v & 1) != 0) {
                bits = withValue(bits, v, 3);
            }
        }
        return bits;
    }

    /** Each MEMORY in two forms that let four VARIABLES be looked at in one go. */
    private static final class Forms {
        private static final int GUARDS = 2340;

        /** Bit 4 v + d: VARIABLE v is d. */
        final int[] hot;
        /** VARIABLE v at bits 3 v and 3 v + 1; bit 3 v + 2 stays free for the guard of a subtraction. */
        final int[] lanes;

        Forms() {
            hot = new int[MEMORIES];
            lanes = new int[MEMORIES];
            for (int memory = 0; memory < MEMORIES; memory++) {
                for (int v = 0; v < 4; v++) {
                    int value = valueOf(memory, v);
                    hot[memory] |= 1 << (4 * v + value);
                    lanes[memory] |= value << (3 * v);
                }
            }
        }

        /** The bits of a SHAPE that these two MEMORIES have. */
        int shapeOf(int one, int two) {
            int x = lanes[one & 255];
            int y = lanes[two & 255];
            // a guard survives where its VARIABLE needed no borrow: there it was not the lesser one
            int notLess = ((x | GUARDS) - y) & GUARDS;
            int notGreater = ((y | GUARDS) - x) & GUARDS;
            return notLess >> 1 | notGreater | (notLess & notGreater) >> 2;
        }

        /** What VARIABLES of a second MEMORY can not be beside this first one in a SHAPE, as in hot. */
        int deniedBy(int bits, int memory) {
            int denied = 0;
            for (int v = 0; v < 4; v++) {
                int value = valueOf(memory, v);
                int below = (1 << value) - 1;
                int above = 15 & ~(below | 1 << value);
                int three = bits >> (3 * v);
                int here = (three & 1) == 0 ? 0 : below | above;
                here |= (three & 2) == 0 ? 0 : above;
                here |= (three & 4) == 0 ? 0 : below;
                denied |= here << (4 * v);
            }
            return denied;
        }
    }

    /** A PROGRAM's LINES, and its RUNS, each made when it is first asked for. */
    private static final class Program {
        /** What a RUN comes to but for MEMORY, in one number: a 1 and then SHOWN by fours; END; STEPS. */
        static final long SHOWN_PART = (1L << 50) - 1L;
        static final long END_PART = 3L << 50;
        static final long STEPS_PART = 31L << 52;

        private static final int ROW = STEPS + 1;
        private static final int STATE_PART = 4095;
        private static final int REFUSAL = 4096;

        private final Forms forms;
        final int[] act;
        final int[] a;
        final int[] b;
        final int[] c;
        int size;
        int hushed;

        /** A RUN counts as made if it bears the present age. */
        private int age;
        private final int[] madeAt;
        /** The states of each RUN, ahead of each STEP and at last. */
        final int[] states;
        final int[] endOf;
        final int[] lastOf;
        final int[] hotOf;
        final int[] stepsOf;
        final int[] showedOf;
        final long[] comesTo;

        Program(Forms forms) {
            this.forms = forms;
            act = new int[LINES];
            a = new int[LINES];
            b = new int[LINES];
            c = new int[LINES];
            size = 0;
            hushed = 0;
            age = 1;
            madeAt = new int[MEMORIES];
            states = new int[MEMORIES * ROW];
            endOf = new int[MEMORIES];
            lastOf = new int[MEMORIES];
            hotOf = new int[MEMORIES];
            stepsOf = new int[MEMORIES];
            showedOf = new int[MEMORIES];
            comesTo = new long[MEMORIES];
        }

        void put(int line, int newAct, int newA, int newB, int newC) {
            if (line < 0 || line >= LINES) {
                return;
            }
            act[line] = newAct;
            a[line] = newA;
            b[line] = newB;
            c[line] = newC;
            age++;
        }

        void hush(int lines) {
            hushed = lines;
            age++;
        }

        private int stateAt(int line, int memory) {
            return (line >= size ? GONE : line) * MEMORIES + memory;
        }

        /** The state behind one STEP; REFUSAL beside it if the act was REFUSED. An ended one stays. */
        int stepped(int line, int memory) {
            if (line < 0 || line >= size || line >= LINES) {
                return GONE * MEMORIES + memory;
            }
            int to = a[line];
            int left = valueOf(memory, b[line] & 3);
            int right = valueOf(memory, c[line] & 3);
            switch (act[line]) {
                case SET:
                    return stateAt(line + 1, withValue(memory, to, b[line]));
                case COPY:
                    return stateAt(line + 1, withValue(memory, to, left));
                case SUM:
                    return stateAt(line + 1, withValue(memory, to, left + right));
                case LESS:
                    return stateAt(line + 1, withValue(memory, to, left - right));
                case REST:
                    if (right == 0) {
                        return REFUSAL + GONE * MEMORIES + memory;
                    }
                    return stateAt(line + 1, withValue(memory, to, left % right));
                case LEAP:
                    return stateAt(valueOf(memory, to) > 0 ? b[line] : line + 1, memory);
                case SHOW:
                    return stateAt(line + 1, memory);
                default:
                    return GONE * MEMORIES + memory;
            }
        }

        int steppedState(int line, int memory) {
            return stepped(line, memory) & STATE_PART;
        }

        void traceAll() {
            for (int start = 0; start < MEMORIES; start++) {
                trace(start);
            }
        }

        void trace(int start) {
            if (start < 0 || start >= MEMORIES || madeAt[start] == age) {
                return;
            }
            int row = start * ROW;
            int state = stateAt(0, start);
            boolean refused = false;
            int steps = 0;
            states[row] = state;
            while (steps < STEPS && state / MEMORIES < GONE) {
                int next = stepped(state / MEMORIES, state % MEMORIES);
                refused = next >= REFUSAL;
                state = next & STATE_PART;
                steps++;
                states[row + steps] = state;
            }
            boolean spent = state / MEMORIES < GONE;
            int last = state % MEMORIES;
            states[row + steps] = GONE * MEMORIES + last;
            int end = spent ? SPENT : refused ? REFUSED : BY_END;
            endOf[start] = end;
            lastOf[start] = last;
            hotOf[start] = forms.hot[last];
            stepsOf[start] = steps;
            long shown = shownUnder(start, hushed);
            showedOf[start] = countShown(shown);
            comesTo[start] = shown | (long) end << 50 | (long) steps << 52;
            madeAt[start] = age;
        }

        /** SHOWN, by fours behind a 1, if these LINES were SILENT; the states of that RUN must be made. */
        long shownUnder(int start, int quiet) {
            long shown = 1L;
            int row = start * ROW;
            for (int i = 0; i < stepsOf[start]; i++) {
                int state = states[row + i];
                int line = state / MEMORIES;
                if (line < LINES && act[line] == SHOW && (quiet >> line & 1) == 0) {
                    shown = shown << 2 | (long) valueOf(state % MEMORIES, a[line]);
                }
            }
            return shown;
        }

        private static int countShown(long shown) {
            int count = 0;
            while (count < STEPS && shown >> (2 * count) != 1L) {
                count++;
            }
            return count;
        }

        int shownAt(int start, int i) {
            int behind = showedOf[start] - 1 - i;
            if (behind < 0) {
                return NONE;
            }
            return (int) (comesTo[start] >> (2 * behind)) & 3;
        }

        /** Whether another RUN begins by showing the n values of this one, or all if they are fewer. */
        boolean beginAlike(int start, int other, int n) {
            long mine = comesTo[start] & SHOWN_PART;
            long its = comesTo[other] & SHOWN_PART;
            if (showedOf[start] < n || showedOf[other] < n) {
                return mine == its;
            }
            return mine >> (2 * (showedOf[start] - n)) == its >> (2 * (showedOf[other] - n));
        }

        /** The LINE at which a RUN stands ahead of a STEP; GONE if it has ENDED. */
        int lineAhead(int start, int step) {
            int at = Math.min(step, stepsOf[start]);
            return states[start * ROW + at] / MEMORIES;
        }

        /** LINES of SHOW that are not SILENT, as bits. */
        int loudLines() {
            int lines = 0;
            for (int line = 0; line < size; line++) {
                if (act[line] == SHOW && (hushed >> line & 1) == 0) {
                    lines |= 1 << line;
                }
            }
            return lines;
        }

        /** LINES that are not the same in another PROGRAM, or that only one of the two has. */
        int unlikeLines(Program other) {
            int lines = 0;
            for (int line = 0; line < LINES; line++) {
                boolean here = line < size;
                boolean there = line < other.size;
                if (here != there || here && !isSameLine(other, line)) {
                    lines |= 1 << line;
                }
            }
            return lines;
        }

        private boolean isSameLine(Program other, int line) {
            return act[line] == other.act[line] && a[line] == other.a[line]
                && b[line] == other.b[line] && c[line] == other.c[line];
        }
    }

    /** A text of signs; once it has no FAULT, the tests that it asks of two MEMORIES. */
    private static final class Saying {
        private static final int LETTER = 0, SIGN = 1, SECOND_LETTER = 2, LINK = 3, WRONG = 4;

        final int[] signs;
        int size;
        /** Which parts of what two RUNS come to must be alike. */
        long alike;
        private int colon;

        Saying() {
            signs = new int[SIGNS];
            size = 0;
            alike = 0L;
            colon = 0;
        }

        int firstFault() {
            int due = LETTER;
            boolean behind = false;
            for (int i = 0; i < size; i++) {
                due = dueBehind(signs[i], due, behind);
                if (due == WRONG) {
                    return i;
                }
                behind = behind || signs[i] == ':';
            }
            return behind && due == LINK ? NONE : size;
        }

        /** What is due behind a sign that stands where that was due. */
        private static int dueBehind(int sign, int due, boolean behind) {
            switch (due) {
                case LETTER:
                    if (isLetter(sign)) {
                        return SIGN;
                    }
                    return behind && alikePart(sign) != 0L ? LINK : WRONG;
                case SIGN:
                    return sign == '=' || sign == '<' || sign == '>' || sign == '#' ? SECOND_LETTER : WRONG;
                case SECOND_LETTER:
                    return isLetter(sign) ? LINK : WRONG;
                default:
                    return sign == '&' || sign == ':' && !behind ? LETTER : WRONG;
            }
        }

        private static boolean isLetter(int sign) {
            return sign >= 'a' && sign <= 'd';
        }

        private static long alikePart(int sign) {
            switch (sign) {
                case 'e':
                    return Program.END_PART;
                case 'o':
                    return Program.SHOWN_PART;
                case 't':
                    return Program.STEPS_PART;
                default:
                    return 0L;
            }
        }

        void take(Saying other) {
            System.arraycopy(other.signs, 0, signs, 0, SIGNS);
            size = other.size;
            colon = 0;
            alike = 0L;
            for (int i = 0; i < size; i++) {
                colon = signs[i] == ':' ? i : colon;
                alike |= alikePart(signs[i]);
            }
        }

        /** What VARIABLES of a second START can not be beside this first one, as in Forms.hot. */
        int deniedAhead(int memory) {
            return deniedFrom(0, colon, memory);
        }

        int deniedBehind(int memory) {
            return deniedFrom(colon + 1, size, memory);
        }

        private int deniedFrom(int from, int to, int memory) {
            int denied = 0;
            // a TEST with a sign is three long and one without is one, and each has a link behind it
            for (int i = from; i + 2 < to; i += isLetter(signs[i]) ? 4 : 2) {
                if (isLetter(signs[i])) {
                    int value = valueOf(memory, signs[i] - 'a');
                    denied |= deniedBy(signs[i + 1], value) << (4 * (signs[i + 2] - 'a'));
                }
            }
            return denied;
        }

        /** The values, as bits, to which a value of the first run does not stand so. */
        private static int deniedBy(int sign, int value) {
            int below = (1 << value) - 1;
            int same = 1 << value;
            switch (sign) {
                case '=':
                    return 15 & ~same;
                case '<':
                    return below | same;
                case '>':
                    return 15 & ~below;
                default:
                    return same;
            }
        }
    }

    /** What a SAYING asks of the second one of a PAIR when the first one is told. */
    private static final class Asked {
        private final Forms forms;
        private int deniedAhead;
        private int deniedBehind;
        private long comesTo;
        /** Which parts of what the two come to must be alike. */
        long alike;

        Asked(Forms forms) {
            this.forms = forms;
        }

        void take(Saying saying, Program p, int start) {
            deniedAhead = saying.deniedAhead(start);
            deniedBehind = saying.deniedBehind(p.lastOf[start]);
            comesTo = p.comesTo[start];
            alike = saying.alike;
        }

        boolean isMeant(int other) {
            return (forms.hot[other] & deniedAhead) == 0;
        }

        /** Of a PAIR that is MEANT. */
        boolean isBroken(Program q, int other) {
            return (q.hotOf[other] & deniedBehind) != 0 || ((comesTo ^ q.comesTo[other]) & alike) != 0L;
        }
    }

    /** What a SAYING comes to over all PAIRS of two PROGRAMS. */
    private static final class Pairs {
        private final Asked asked;
        int key;
        int broken;
        int firstBroken;
        int meant;
        int lone;

        Pairs(Asked asked) {
            this.asked = asked;
            key = NONE;
        }

        void judge(Saying saying, Program p, Program q) {
            p.traceAll();
            q.traceAll();
            broken = 0;
            firstBroken = NONE;
            meant = 0;
            lone = NONE;
            for (int start = 0; start < MEMORIES; start++) {
                int before = meant - broken;
                asked.take(saying, p, start);
                judgeStart(start, q);
                if (lone == NONE && meant - broken == before) {
                    lone = start;
                }
            }
        }

        private void judgeStart(int start, Program q) {
            for (int other = 0; other < MEMORIES; other++) {
                if (!asked.isMeant(other)) {
                    continue;
                }
                meant++;
                if (asked.isBroken(q, other)) {
                    broken++;
                    firstBroken = firstBroken == NONE ? start * MEMORIES + other : firstBroken;
                }
            }
        }
    }

    /**
     * SO. To be alike in SHOWN goes over from RUN to RUN, so STARTS are put into groups that MEANT
     * PAIRS join, and each choice of LINES is tried on the groups.
     */
    private static final class Silencer {
        private final Asked asked;
        /** The least START of a START's group. */
        private final int[] group;
        private final long[] shown;

        Silencer(Asked asked) {
            this.asked = asked;
            group = new int[MEMORIES];
            shown = new long[MEMORIES];
        }

        int fewest(Saying saying, Program program) {
            int loud = program.loudLines();
            int choices = 1 << Integer.bitCount(loud);
            program.traceAll();
            if (!joinAll(saying, program)) {
                return NONE;
            }
            if ((saying.alike & Program.SHOWN_PART) == 0L) {
                return 0;
            }
            int best = NONE;
            int lines = 0;
            for (int i = 0; i < choices; i++) {
                boolean fewer = best == NONE || Integer.bitCount(lines) < Integer.bitCount(best);
                if (fewer && isAlike(program, program.hushed | lines)) {
                    best = lines;
                }
                // the next greater choice among the bits of loud
                lines = (lines - loud) & loud;
            }
            return best;
        }

        /** False if some PAIR is BROKEN whatever is SILENT. */
        private boolean joinAll(Saying saying, Program program) {
            for (int i = 0; i < MEMORIES; i++) {
                group[i] = i;
            }
            for (int start = 0; start < MEMORIES; start++) {
                asked.take(saying, program, start);
                asked.alike &= ~Program.SHOWN_PART;
                if (!joinStart(program, start)) {
                    return false;
                }
            }
            return true;
        }

        private boolean joinStart(Program program, int start) {
            for (int other = 0; other < MEMORIES; other++) {
                if (!asked.isMeant(other)) {
                    continue;
                }
                if (asked.isBroken(program, other)) {
                    return false;
                }
                join(start, other);
            }
            return true;
        }

        private void join(int one, int two) {
            int least = Math.min(group[one], group[two]);
            int greater = Math.max(group[one], group[two]);
            if (least == greater) {
                return;
            }
            for (int i = 0; i < MEMORIES; i++) {
                group[i] = group[i] == greater ? least : group[i];
            }
        }

        private boolean isAlike(Program program, int quiet) {
            for (int start = 0; start < MEMORIES; start++) {
                shown[start] = program.shownUnder(start, quiet);
                if (shown[start] != shown[group[start]]) {
                    return false;
                }
            }
            return true;
        }
    }

    /** WAITS and TOLD SHAPES of PLACES, and what one WALK found. */
    private static final class Walker {
        private static final int FIRST = 1, SECOND = 2;

        private final Forms forms;
        int key;
        final int[] waits;
        final int[] toldShapes;
        final int[] shapes;
        private final int[] stood;
        int mostMoves;
        /** States behind one move from each MEMORY at a PLACE. */
        private final int[] firstMoved;
        private final int[] secondMoved;
        /** LINES at which the second one can stand behind that move, as bits. */
        private int secondLines;
        /** What a told SHAPE denies to the second one behind that move, by the LINE at which it stands. */
        private final int[] deniedNext;

        Walker(Forms forms) {
            this.forms = forms;
            key = NONE;
            waits = new int[PLACES];
            toldShapes = new int[PLACES];
            shapes = new int[PLACES];
            stood = new int[PLACES];
            mostMoves = 0;
            firstMoved = new int[MEMORIES];
            secondMoved = new int[MEMORIES];
            secondLines = 0;
            deniedNext = new int[SIDE];
            Arrays.fill(toldShapes, ALL_BITS);
            // where one has ENDED no WAIT can be told: the other one goes alone
            for (int line = 0; line < LINES; line++) {
                waits[line * SIDE + GONE] = FIRST;
                waits[GONE * SIDE + line] = SECOND;
            }
        }

        void walkAll(Saying saying, Program p, Program q) {
            p.traceAll();
            q.traceAll();
            Arrays.fill(shapes, ALL_BITS);
            Arrays.fill(stood, 0);
            mostMoves = 0;
            for (int start = 0; start < MEMORIES; start++) {
                int denied = saying.deniedAhead(start);
                for (int other = 0; other < MEMORIES; other++) {
                    if ((forms.hot[other] & denied) == 0) {
                        mostMoves = Math.max(mostMoves, walkPair(p, start, q, other));
                    }
                }
            }
        }

        /** How many moves a PAIR makes; each move takes at least one of two RUNS a STEP on. */
        private int walkPair(Program p, int start, Program q, int other) {
            int i = start * Program.ROW;
            int j = other * Program.ROW;
            for (int moves = 0; moves <= 2 * STEPS; moves++) {
                int place = standAt(p.states[i], q.states[j]);
                if (place == LAST_PLACE) {
                    return moves;
                }
                i += waits[place] == SECOND ? 0 : 1;
                j += waits[place] == FIRST ? 0 : 1;
            }
            return 2 * STEPS;
        }

        private int standAt(int one, int two) {
            int place = one / MEMORIES * SIDE + two / MEMORIES;
            stood[place] = 1;
            shapes[place] &= forms.shapeOf(one, two);
            return place;
        }

        int countPlaces() {
            int count = 0;
            for (int place = 0; place < PLACES; place++) {
                count += stood[place];
            }
            return count;
        }

        int countUnlike() {
            int count = 0;
            for (int place = 0; place < PLACES; place++) {
                count += place / SIDE == place % SIDE ? 0 : stood[place];
            }
            return count;
        }

        int firstFailing(Program p, Program q) {
            for (int place = 0; place < LAST_PLACE; place++) {
                if (stood[place] != 0 && !isKept(p, q, place)) {
                    return 100 * (place / SIDE) + place % SIDE;
                }
            }
            return NONE;
        }

        private boolean isKept(Program p, Program q, int place) {
            moveAll(p, q, place);
            for (int one = 0; one < MEMORIES; one++) {
                boolean asks = askNext(firstMoved[one]);
                if (asks && !areKept(forms.deniedBy(toldShapes[place], one))) {
                    return false;
                }
            }
            return true;
        }

        private void moveAll(Program p, Program q, int place) {
            int one = place / SIDE;
            int two = place % SIDE;
            int how = waits[place];
            secondLines = 0;
            for (int memory = 0; memory < MEMORIES; memory++) {
                firstMoved[memory] = how == SECOND ? one * MEMORIES + memory : p.steppedState(one, memory);
                secondMoved[memory] = how == FIRST ? two * MEMORIES + memory : q.steppedState(two, memory);
                secondLines |= 1 << (secondMoved[memory] / MEMORIES);
            }
        }

        /** Puts down what the PLACES that can be next deny beside this first one; whether it is anything. */
        private boolean askNext(int state) {
            int any = 0;
            for (int line = 0; line < SIDE; line++) {
                if ((secondLines >> line & 1) != 0) {
                    int bits = toldShapes[state / MEMORIES * SIDE + line];
                    deniedNext[line] = forms.deniedBy(bits, state % MEMORIES);
                    any |= deniedNext[line];
                }
            }
            return any != 0;
        }

        private boolean areKept(int denied) {
            for (int two = 0; two < MEMORIES; two++) {
                int next = secondMoved[two];
                boolean there = (forms.hot[two] & denied) == 0;
                if (there && (forms.hot[next % MEMORIES] & deniedNext[next / MEMORIES]) != 0) {
                    return false;
                }
            }
            return true;
        }
    }

    /** ORDERS: all that two PROGRAMS on one MEMORY can come to. */
    private static final class Meeting {
        private static final int ALL = PLACES * MEMORIES;

        int key;
        /** Each pair of LINES with a MEMORY that was reached, in the order in which it was. */
        private final int[] queue;
        private int reached;
        /** The same as bits. */
        private final long[] seen;

        Meeting() {
            key = NONE;
            queue = new int[ALL];
            reached = 0;
            seen = new long[ALL / 64];
        }

        void reach(Program p, Program q, int memory) {
            Arrays.fill(seen, 0L);
            reached = 0;
            add(p.stateAt(0, memory) / MEMORIES, q.stateAt(0, memory) / MEMORIES, memory);
            for (int i = 0; i < reached && i < ALL; i++) {
                int here = queue[i] % MEMORIES;
                int one = queue[i] / MEMORIES / SIDE;
                int two = queue[i] / MEMORIES % SIDE;
                if (one != GONE) {
                    int next = p.steppedState(one, here);
                    add(next / MEMORIES, two, next % MEMORIES);
                }
                if (two != GONE) {
                    int next = q.steppedState(two, here);
                    add(one, next / MEMORIES, next % MEMORIES);
                }
            }
        }

        private void add(int one, int two, int memory) {
            int point = (one * SIDE + two) * MEMORIES + memory;
            if (point < 0 || point >= ALL || reached >= ALL || isSeen(point)) {
                return;
            }
            seen[point / 64] |= 1L << (point % 64);
            queue[reached] = point;
            reached++;
        }

        private boolean isSeen(int point) {
            return (seen[point / 64] >> (point % 64) & 1L) != 0L;
        }

        boolean isEnd(int memory) {
            return isSeen(LAST_PLACE * MEMORIES + memory);
        }

        int countEnds() {
            int count = 0;
            for (int memory = 0; memory < MEMORIES; memory++) {
                count += isEnd(memory) ? 1 : 0;
            }
            return count;
        }

        int leastEnd() {
            for (int memory = 0; memory < MEMORIES; memory++) {
                if (isEnd(memory)) {
                    return memory;
                }
            }
            return NONE;
        }
    }
}
