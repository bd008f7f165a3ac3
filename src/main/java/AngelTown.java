import java.util.Arrays;

/** A town by seconds, its wards, mishaps and angels; ../shared/DOC.md says what each call does. */
public final class AngelTown {
    public static final int NONE = -1;

    private static final int SIDE = 8;
    private static final int PLACES = SIDE * SIDE;
    private static final int SECONDS = 600;
    private static final int KINDS = 5;
    private static final int WARDS = 8;
    private static final int ANGELS = 6;
    private static final int OTHERS = 6;
    private static final int MISHAPS = 10;
    private static final int MOST_STILL = 99;
    private static final int MOST_HOLD = 60;
    private static final int MOST_LOT = 6;
    private static final int KEPT = 6;
    private static final int GROUPS = 1 << ANGELS;

    private static final int TAPE = 400;
    private static final int ORDERS = 40;
    private static final int ORDER_ROW = 2;
    private static final int LAW_LINES = 16;
    private static final int BOOK_LINES = 100;

    // The columns of a mishap's row are mishap()'s own numbers.
    private static final int HARM = 0;
    private static final int PLACE = 1;
    private static final int FROM = 2;
    private static final int TO = 3;
    private static final int WARD = 4;
    private static final int KIND = 5;
    private static final int CHANCE = 6;
    private static final int MISHAP_ROW = 7;
    private static final int SURE = 100;

    private static final int OTHER_ROW = 3;

    // What has become of a mishap.
    private static final int AVERTED = 1;
    private static final int HAPPENED = 2;
    private static final int PASSED = 3;

    // Orders below GO are the kinds of doings.
    private static final int GO = KINDS;
    private static final int WAIT = KINDS + 1;

    private final Town town = new Town();
    private final Course course = new Course();
    private final Book lines = new Book();
    private final Past past = new Past();
    private final Picture picture = new Picture();
    private final Tape tape = new Tape();
    private final Reader reader = new Reader(tape, town);
    private final Play play = new Play(town, lines);
    private final Foresight foresight = new Foresight(town, course, play);
    private final Care care = new Care(town, course, foresight);

    public AngelTown() {
        town.clear(SIDE, SIDE);
        course.clear();
    }

    public int state(int v) {
        int was = course.draws;
        course.draws = v;
        isTold();
        return was;
    }

    public boolean town(int w, int h) {
        if (w < 2 || w > SIDE || h < 2 || h > SIDE) {
            return false;
        }
        town.clear(w, h);
        int draws = course.draws;
        course.clear();
        course.draws = draws;
        isTold();
        return true;
    }

    public boolean set(int what, int which, int v) {
        if (v < 0 || v > 9) {
            return false;
        }
        if (what == 0) {
            town.guard = v;
        } else if (what == 1 && which >= 0 && which < KINDS) {
            town.pauses[which] = v;
        } else if (what == 2 && town.hasAngel(which) && v > 0) {
            town.paces[which] = v;
        } else {
            return false;
        }
        isTold();
        return true;
    }

    public int ward(int place) {
        if (!town.hasPlace(place) || town.wards >= WARDS) {
            return NONE;
        }
        int w = town.wards;
        town.wards++;
        town.wayLengths[w] = 0;
        course.wardPlaces[w] = place;
        isTold();
        return w;
    }

    public int angel(int place, int pace) {
        if (!town.hasPlace(place) || pace < 1 || pace > 9 || town.angels >= ANGELS) {
            return NONE;
        }
        int a = town.angels;
        town.angels++;
        town.paces[a] = pace;
        town.planLengths[a] = 0;
        course.angelPlaces[a] = place;
        isTold();
        return a;
    }

    public int other(int place, int from, int to) {
        if (!town.hasPlace(place) || from < 0 || to < from || to >= SECONDS || town.others >= OTHERS) {
            return NONE;
        }
        int row = town.others * OTHER_ROW;
        town.otherRows[row] = place;
        town.otherRows[row + 1] = from;
        town.otherRows[row + 2] = to;
        town.others++;
        isTold();
        return town.others - 1;
    }

    public int feed(int a, int b, int c, int d, int e) {
        if (tape.length + 20 > TAPE) {
            return NONE;
        }
        tape.append(a);
        tape.append(b);
        tape.append(c);
        tape.append(d);
        tape.append(e);
        return tape.length;
    }

    public boolean end(int n) {
        if (n < 0 || n > tape.length) {
            return false;
        }
        tape.length = n;
        return true;
    }

    public int text(int k, int who) {
        boolean known = k == 1 || k == 3 || k == 0 && town.hasWard(who) || k == 2 && town.hasAngel(who);
        int answer = reader.read(known ? k : NONE);
        if (answer == NONE) {
            return NONE;
        }
        if (k == 0) {
            takeWay(who);
        } else if (k == 1) {
            takeMishaps();
        } else if (k == 2) {
            takePlan(who);
        } else {
            town.law.copyFrom(reader.law);
        }
        // A law alters nothing that has gone by, so the seconds can still go back behind it.
        if (k != 3) {
            isTold();
        }
        return answer;
    }

    public int fault(int what) {
        if (what == 0) {
            return reader.fault;
        }
        return what == 1 ? reader.place : NONE;
    }

    public int seconds(int n) {
        if (n < 1 || n > 60 || course.second + n > SECONDS) {
            return NONE;
        }
        int came = 0;
        for (int i = 0; i < n; i++) {
            past.keep(course);
            came += play.goBy(course, false);
        }
        isChanged();
        return came;
    }

    public int of(int ward, int what) {
        if (!town.hasWard(ward)) {
            return NONE;
        }
        switch (what) {
            case 0:
                return course.wardPlaces[ward];
            case 1:
                return course.stills[ward];
            case 2:
                return town.wayLengths[ward] - course.stepsTaken[ward];
            default:
                return NONE;
        }
    }

    public int at(int angel, int what) {
        if (!town.hasAngel(angel)) {
            return NONE;
        }
        switch (what) {
            case 0:
                return course.angelPlaces[angel];
            case 1:
                return town.paces[angel];
            case 2:
                return course.busy[angel];
            case 3:
                return course.done[angel];
            case 4:
                return town.planLengths[angel] - course.ordersTaken[angel];
            case 5:
                care.prepare();
                return care.worth(angel);
            case 6:
                return foresight.bestWait(angel);
            default:
                return NONE;
        }
    }

    public int mishap(int i, int what) {
        if (!town.hasMishap(i)) {
            return NONE - 1;
        }
        if (what >= 0 && what < MISHAP_ROW) {
            return town.mishapRows[i * MISHAP_ROW + what];
        }
        switch (what) {
            case 7:
                return course.over[i];
            case 8:
                return course.over[i] == 0 ? foresight.comesIn(i) : course.came[i];
            case 9:
                return course.avertedBy[i];
            case 10:
                return foresight.whoCould(i);
            default:
                return NONE - 1;
        }
    }

    public int book(int i, int what) {
        if (i < 0 || i >= course.written) {
            return NONE;
        }
        if (what >= 0 && what < Book.ROW) {
            return lines.rows[i * Book.ROW + what];
        }
        return what == Book.ROW ? avertedByLine(i) : NONE;
    }

    public int planned(int what) {
        if (what != 0 && what != 1) {
            return NONE;
        }
        foresight.plan();
        return what == 0 ? foresight.plannedRisk : foresight.plannedAverted;
    }

    public int least(int what) {
        care.prepare();
        if (what == 0) {
            return care.riskLeft();
        }
        if (what == 1) {
            return care.setLeft();
        }
        return what >= 10 && town.hasAngel(what - 10) ? care.setOf(what - 10) : NONE;
    }

    public int fewest(int what) {
        if (what != 0 && what != 1) {
            return NONE;
        }
        care.prepare();
        int group = care.fewestGroup();
        return what == 0 ? Integer.bitCount(group) : group;
    }

    public int hopeless() {
        return foresight.seenToBy(0);
    }

    public int shows() {
        return foresight.seenToBy(1);
    }

    public long lot(int set, int what) {
        boolean there = set > 0 && set < 1 << town.mishaps && Integer.bitCount(set) <= MOST_LOT;
        if (!there || what != 0 && what != 1) {
            return NONE;
        }
        return lotOf(set, what == 0);
    }

    public int near(int a, int b, int what) {
        if (!town.hasWard(a) || !town.hasWard(b) || a == b || what != 0 && what != 1) {
            return NONE;
        }
        foresight.meet(a, b);
        return what == 0 ? foresight.meetHold : foresight.meetSecond;
    }

    public boolean undo() {
        if (!past.goBack(course)) {
            return false;
        }
        isChanged();
        return true;
    }

    public boolean image(boolean taken) {
        if (taken) {
            picture.take(town, course, lines);
            return true;
        }
        if (!picture.taken) {
            return false;
        }
        picture.giveBack(town, course, lines);
        isTold();
        return true;
    }

    public int look(int what) {
        switch (what) {
            case 0:
                return town.width;
            case 1:
                return town.height;
            case 2:
                return course.second;
            case 3:
                return town.wards;
            case 4:
                return town.angels;
            case 5:
                return town.others;
            case 6:
                return town.mishaps;
            case 7:
                return course.written;
            case 8:
                return town.law.lines;
            case 9:
                return course.draws;
            case 10:
                return harmHappened();
            case 11:
                return howManyAverted();
            case 12:
                return past.size;
            case 13:
                return town.guard;
            default:
                return what >= 20 && what < 20 + KINDS ? town.pauses[what - 20] : NONE;
        }
    }

    /** What was told can't be taken back second by second. */
    private void isTold() {
        past.size = 0;
        isChanged();
    }

    private void isChanged() {
        foresight.fresh = false;
        care.fresh = false;
    }

    private void takeWay(int w) {
        for (int i = 0; i < reader.size && i < SECONDS; i++) {
            town.ways[w * SECONDS + i] = (byte) reader.out[i];
        }
        town.wayLengths[w] = reader.size;
        course.stepsTaken[w] = 0;
        course.stills[w] = 0;
    }

    private void takeMishaps() {
        System.arraycopy(reader.out, 0, town.mishapRows, 0, reader.size);
        town.mishaps = reader.count;
        course.clearMishaps();
    }

    private void takePlan(int a) {
        System.arraycopy(reader.out, 0, town.plans, a * ORDERS * ORDER_ROW, reader.size);
        town.planLengths[a] = reader.count;
        course.ordersTaken[a] = 0;
        course.busy[a] = 0;
        course.goals[a] = NONE;
    }

    private int avertedByLine(int line) {
        int set = 0;
        for (int i = 0; i < town.mishaps; i++) {
            if (course.avertedBy[i] == line) {
                set |= 1 << i;
            }
        }
        return set;
    }

    private int harmHappened() {
        int harm = 0;
        for (int i = 0; i < town.mishaps; i++) {
            if (course.over[i] == HAPPENED) {
                harm += town.mishapRows[i * MISHAP_ROW + HARM];
            }
        }
        return harm;
    }

    private int howManyAverted() {
        int count = 0;
        for (int i = 0; i < town.mishaps; i++) {
            if (course.over[i] == AVERTED) {
                count++;
            }
        }
        return count;
    }

    /**
     * With one more harm h the value grows just if h is above the value so far, and harms come from the
     * greatest on: so the first one that is not above it ends the search, and no two long fractions need
     * ever be compared.
     */
    private long lotOf(int set, boolean number) {
        long sumAbove = 0;
        long sumBelow = 1;
        int taken = 0;
        for (int harm = 99; harm > 0; harm--) {
            for (int i = 0; i < town.mishaps; i++) {
                boolean next = (set >> i & 1) != 0 && town.mishapRows[i * MISHAP_ROW + HARM] == harm;
                if (next && (taken == 0 || harm * sumAbove > (taken - 1) * sumBelow)) {
                    sumAbove = sumAbove * harm + sumBelow;
                    sumBelow = sumBelow * harm;
                    taken++;
                }
            }
        }
        long above = (taken - 1) * sumBelow;
        long common = commonPart(above, sumAbove);
        if (common <= 0) {
            return NONE;
        }
        return number ? above / common : sumAbove / common;
    }

    private static long commonPart(long a, long b) {
        long greater = a;
        long less = b;
        for (int i = 0; i < 200 && less != 0; i++) {
            long rest = greater % less;
            greater = less;
            less = rest;
        }
        return greater;
    }

    private static int stepsBetween(int p, int q) {
        return Math.abs(p % SIDE - q % SIDE) + Math.abs(p / SIDE - q / SIDE);
    }

    /** What was told: it stays as it is while seconds go by. */
    private static final class Town {
        int width;
        int height;
        int guard;
        final int[] pauses = new int[KINDS];
        int wards;
        final byte[] ways = new byte[WARDS * SECONDS];
        final int[] wayLengths = new int[WARDS];
        int angels;
        final int[] paces = new int[ANGELS];
        final int[] plans = new int[ANGELS * ORDERS * ORDER_ROW];
        final int[] planLengths = new int[ANGELS];
        int others;
        final int[] otherRows = new int[OTHERS * OTHER_ROW];
        int mishaps;
        final int[] mishapRows = new int[MISHAPS * MISHAP_ROW];
        final Law law = new Law();

        void clear(int w, int h) {
            width = w;
            height = h;
            guard = 3;
            Arrays.fill(pauses, 0);
            wards = 0;
            angels = 0;
            others = 0;
            mishaps = 0;
            law.clear();
        }

        void copyFrom(Town t) {
            width = t.width;
            height = t.height;
            guard = t.guard;
            System.arraycopy(t.pauses, 0, pauses, 0, KINDS);
            wards = t.wards;
            System.arraycopy(t.ways, 0, ways, 0, WARDS * SECONDS);
            System.arraycopy(t.wayLengths, 0, wayLengths, 0, WARDS);
            angels = t.angels;
            System.arraycopy(t.paces, 0, paces, 0, ANGELS);
            System.arraycopy(t.plans, 0, plans, 0, ANGELS * ORDERS * ORDER_ROW);
            System.arraycopy(t.planLengths, 0, planLengths, 0, ANGELS);
            others = t.others;
            System.arraycopy(t.otherRows, 0, otherRows, 0, OTHERS * OTHER_ROW);
            mishaps = t.mishaps;
            System.arraycopy(t.mishapRows, 0, mishapRows, 0, MISHAPS * MISHAP_ROW);
            law.copyFrom(t.law);
        }

        boolean hasPlace(int p) {
            return p >= 0 && p < PLACES && p % SIDE < width && p / SIDE < height;
        }

        boolean hasWard(int w) {
            return w >= 0 && w < wards;
        }

        boolean hasAngel(int a) {
            return a >= 0 && a < angels;
        }

        boolean hasMishap(int i) {
            return i >= 0 && i < mishaps;
        }

        int risk(int i) {
            return mishapRows[i * MISHAP_ROW + HARM] * mishapRows[i * MISHAP_ROW + CHANCE];
        }
    }

    /** What alters while seconds go by; one of it is kept for each second that can go back. */
    private static final class Course {
        int second;
        int draws;
        final int[] wardPlaces = new int[WARDS];
        final int[] stills = new int[WARDS];
        final int[] stepsTaken = new int[WARDS];
        final int[] angelPlaces = new int[ANGELS];
        final int[] busy = new int[ANGELS];
        final int[] goals = new int[ANGELS];
        final int[] ordersTaken = new int[ANGELS];
        final int[] done = new int[ANGELS];
        final int[] over = new int[MISHAPS];
        final int[] came = new int[MISHAPS];
        final int[] avertedBy = new int[MISHAPS];
        int written;

        void clear() {
            second = 0;
            draws = 0;
            Arrays.fill(wardPlaces, 0);
            Arrays.fill(stills, 0);
            Arrays.fill(stepsTaken, 0);
            Arrays.fill(angelPlaces, 0);
            Arrays.fill(busy, 0);
            Arrays.fill(goals, NONE);
            Arrays.fill(ordersTaken, 0);
            Arrays.fill(done, 0);
            clearMishaps();
            written = 0;
        }

        void clearMishaps() {
            Arrays.fill(over, 0);
            Arrays.fill(came, NONE);
            Arrays.fill(avertedBy, NONE);
        }

        void copyFrom(Course c) {
            second = c.second;
            draws = c.draws;
            System.arraycopy(c.wardPlaces, 0, wardPlaces, 0, WARDS);
            System.arraycopy(c.stills, 0, stills, 0, WARDS);
            System.arraycopy(c.stepsTaken, 0, stepsTaken, 0, WARDS);
            System.arraycopy(c.angelPlaces, 0, angelPlaces, 0, ANGELS);
            System.arraycopy(c.busy, 0, busy, 0, ANGELS);
            System.arraycopy(c.goals, 0, goals, 0, ANGELS);
            System.arraycopy(c.ordersTaken, 0, ordersTaken, 0, ANGELS);
            System.arraycopy(c.done, 0, done, 0, ANGELS);
            System.arraycopy(c.over, 0, over, 0, MISHAPS);
            System.arraycopy(c.came, 0, came, 0, MISHAPS);
            System.arraycopy(c.avertedBy, 0, avertedBy, 0, MISHAPS);
            written = c.written;
        }

        int draw(int m) {
            draws = 1664525 * draws + 1013904223;
            return m > 0 ? (draws >>> 8) % m : 0;
        }
    }

    /**
     * The lines of THE BOOK. How many of them stand is told by a course, so that what thought or undone
     * seconds wrote behind them counts for nothing.
     */
    private static final class Book {
        // The columns of a row are book()'s own numbers.
        static final int ROW = 5;
        static final int OF_SECOND = 0;
        static final int OF_KIND = 2;
        static final int OF_PLACE = 3;
        static final int OF_WORKED = 4;

        final int[] rows = new int[BOOK_LINES * ROW];

        void write(int line, int second, int angel, int kind, int place, boolean worked) {
            if (line < 0 || line >= BOOK_LINES) {
                return;
            }
            int row = line * ROW;
            rows[row + OF_SECOND] = second;
            rows[row + 1] = angel;
            rows[row + OF_KIND] = kind;
            rows[row + OF_PLACE] = place;
            rows[row + OF_WORKED] = worked ? 1 : 0;
        }

        /** The latest of the first lines that worked at the place, of the kind or any, not before a second. */
        int guarding(int written, int place, int kind, int since) {
            for (int line = Math.min(written, BOOK_LINES) - 1; line >= 0; line--) {
                int row = line * ROW;
                if (rows[row + OF_SECOND] < since) {
                    return NONE;
                }
                boolean fits = kind == NONE || rows[row + OF_KIND] == kind;
                if (fits && rows[row + OF_PLACE] == place && rows[row + OF_WORKED] == 1) {
                    return line;
                }
            }
            return NONE;
        }

        void copyFrom(Book b) {
            System.arraycopy(b.rows, 0, rows, 0, BOOK_LINES * ROW);
        }
    }

    /** The courses ahead of the latest seconds, the oldest one making room. */
    private static final class Past {
        private final Course[] kept = new Course[KEPT];
        private int next;
        int size;

        Past() {
            for (int i = 0; i < KEPT; i++) {
                kept[i] = new Course();
            }
        }

        void keep(Course c) {
            Course slot = next >= 0 && next < KEPT ? kept[next] : null;
            if (slot == null) {
                return;
            }
            slot.copyFrom(c);
            next = next + 1 == KEPT ? 0 : next + 1;
            size = Math.min(size + 1, KEPT);
        }

        boolean goBack(Course c) {
            if (size <= 0) {
                return false;
            }
            next = next == 0 ? KEPT - 1 : next - 1;
            size--;
            Course slot = next >= 0 && next < KEPT ? kept[next] : null;
            if (slot != null) {
                c.copyFrom(slot);
            }
            return true;
        }
    }

    /** THE IMAGE. */
    private static final class Picture {
        private final Town town = new Town();
        private final Course course = new Course();
        private final Book lines = new Book();
        boolean taken;

        void take(Town t, Course c, Book b) {
            town.copyFrom(t);
            course.copyFrom(c);
            lines.copyFrom(b);
            taken = true;
        }

        void giveBack(Town t, Course c, Book b) {
            t.copyFrom(town);
            c.copyFrom(course);
            b.copyFrom(lines);
        }
    }

    /** THE LAW OF DOINGS: the condition of each line in postfix, which needs no recursion to be asked. */
    private static final class Law {
        // Below VALUES an operation is the value of that number: kind, second, x, y, wards, spoilt, angel, done, pace.
        static final int VALUES = 9;
        static final int PUSH = 9;
        static final int ADD = 10;
        static final int SUBTRACT = 11;
        static final int TIMES = 12;
        static final int PART = 13;
        static final int LESS = 14;
        static final int EQUAL = 15;
        static final int MORE = 16;
        static final int NOT = 17;
        static final int AND = 18;
        static final int OR = 19;

        // A token of the tape becomes two numbers at most.
        private static final int CODE = 2 * TAPE;
        // Two halves wait for each ( that is open, and three within a comparison.
        private static final int STACK = 32;

        private final int[] code = new int[CODE];
        private final int[] starts = new int[LAW_LINES + 1];
        private final int[] works = new int[LAW_LINES];
        private final int[] stack = new int[STACK];
        private int size;
        int lines;

        void clear() {
            size = 0;
            lines = 0;
        }

        void copyFrom(Law l) {
            System.arraycopy(l.code, 0, code, 0, CODE);
            System.arraycopy(l.starts, 0, starts, 0, LAW_LINES + 1);
            System.arraycopy(l.works, 0, works, 0, LAW_LINES);
            size = l.size;
            lines = l.lines;
        }

        void emit(int operation) {
            if (size < CODE) {
                code[size] = operation;
                size++;
            }
        }

        void closeLine(boolean lineWorks) {
            if (lines < LAW_LINES) {
                works[lines] = lineWorks ? 1 : 0;
                lines++;
                starts[lines] = size;
            }
        }

        boolean worksBy(int line) {
            return line >= 0 && line < lines && works[line] == 1;
        }

        /** Whether the condition of a line, or its lack, lets it speak. */
        boolean speaks(int line, int[] values) {
            if (line < 0 || line >= lines) {
                return false;
            }
            int end = Math.min(starts[line + 1], CODE);
            int top = 0;
            for (int i = starts[line]; i < end; i++) {
                int operation = code[i];
                if (operation == PUSH && i + 1 < end && top < STACK) {
                    i++;
                    stack[top] = code[i];
                    top++;
                } else if (operation >= 0 && operation < VALUES && top < STACK) {
                    stack[top] = values[operation];
                    top++;
                } else if (operation == NOT && top > 0) {
                    stack[top - 1] = 1 - stack[top - 1];
                } else if (top > 1) {
                    top--;
                    stack[top - 1] = joined(operation, stack[top - 1], stack[top]);
                }
            }
            return top == 0 || stack[top - 1] != 0;
        }

        private static int joined(int operation, int a, int b) {
            switch (operation) {
                case ADD:
                    return a + b;
                case SUBTRACT:
                    return a - b;
                case TIMES:
                    return a * b;
                case PART:
                    return b == 0 ? 0 : a / b;
                case LESS:
                    return a < b ? 1 : 0;
                case EQUAL:
                    return a == b ? 1 : 0;
                case MORE:
                    return a > b ? 1 : 0;
                case AND:
                    return a & b;
                default:
                    return a | b;
            }
        }
    }

    /** A SECOND, on whichever course it is played. */
    private static final class Play {
        private final Town town;
        private final Book lines;
        private final int[] values = new int[Law.VALUES];

        Play(Town t, Book b) {
            town = t;
            lines = b;
        }

        /** How many mishaps came. In thought nothing is drawn: what is not averted counts as happened. */
        int goBy(Course c, boolean inThought) {
            for (int a = 0; a < town.angels; a++) {
                moveAngel(c, a);
            }
            moveWards(c);
            int came = 0;
            for (int i = 0; i < town.mishaps; i++) {
                if (c.over[i] == 0 && comesNow(c, i)) {
                    settle(c, i, inThought);
                    came++;
                }
            }
            c.second++;
            return came;
        }

        private void moveAngel(Course c, int a) {
            for (int n = 0; n < ORDERS && c.busy[a] == 0 && c.ordersTaken[a] < town.planLengths[a]; n++) {
                int row = (a * ORDERS + c.ordersTaken[a]) * ORDER_ROW;
                int order = town.plans[row];
                int value = town.plans[row + 1];
                c.ordersTaken[a]++;
                if (order < KINDS) {
                    act(c, a, order);
                    return;
                }
                c.goals[a] = order == GO ? value : NONE;
                c.busy[a] = order == GO ? stepsBetween(c.angelPlaces[a], value) * town.paces[a] : value;
            }
            if (c.busy[a] == 0) {
                return;
            }
            c.busy[a]--;
            if (c.busy[a] == 0 && c.goals[a] != NONE) {
                c.angelPlaces[a] = c.goals[a];
                c.goals[a] = NONE;
            }
        }

        private void act(Course c, int a, int kind) {
            int place = c.angelPlaces[a];
            boolean worked = works(c, a, kind);
            c.done[a]++;
            for (int w = 0; worked && w < town.wards; w++) {
                if (c.wardPlaces[w] == place) {
                    c.stills[w] = Math.min(MOST_STILL, c.stills[w] + town.pauses[kind]);
                }
            }
            if (c.written < BOOK_LINES) {
                lines.write(c.written, c.second, a, kind, place, worked);
                c.written++;
            }
        }

        private boolean works(Course c, int a, int kind) {
            int place = c.angelPlaces[a];
            boolean spoilt = isSpoilt(place, c.second);
            values[0] = kind;
            values[1] = c.second;
            values[2] = place % SIDE;
            values[3] = place / SIDE;
            values[4] = howManyThere(c, place);
            values[5] = spoilt ? 1 : 0;
            values[6] = a;
            values[7] = c.done[a];
            values[8] = town.paces[a];
            for (int line = 0; line < town.law.lines; line++) {
                if (town.law.speaks(line, values)) {
                    return town.law.worksBy(line);
                }
            }
            return !spoilt;
        }

        private boolean isSpoilt(int place, int second) {
            for (int o = 0; o < town.others; o++) {
                int row = o * OTHER_ROW;
                boolean then = town.otherRows[row + 1] <= second && second <= town.otherRows[row + 2];
                if (then && town.otherRows[row] == place) {
                    return true;
                }
            }
            return false;
        }

        private int howManyThere(Course c, int place) {
            int count = 0;
            for (int w = 0; w < town.wards; w++) {
                if (c.wardPlaces[w] == place) {
                    count++;
                }
            }
            return count;
        }

        void moveWards(Course c) {
            for (int w = 0; w < town.wards; w++) {
                if (c.stills[w] > 0) {
                    c.stills[w]--;
                } else if (c.stepsTaken[w] < town.wayLengths[w] && c.stepsTaken[w] < SECONDS) {
                    int step = town.ways[w * SECONDS + c.stepsTaken[w]];
                    c.stepsTaken[w]++;
                    c.wardPlaces[w] = placeBehind(c.wardPlaces[w], step);
                }
            }
        }

        private int placeBehind(int place, int step) {
            int x = place % SIDE;
            int y = place / SIDE;
            if (step == Tape.NORTH) {
                y = Math.max(y - 1, 0);
            } else if (step == Tape.EAST) {
                x = Math.min(x + 1, town.width - 1);
            } else if (step == Tape.SOUTH) {
                y = Math.min(y + 1, town.height - 1);
            } else if (step == Tape.WEST) {
                x = Math.max(x - 1, 0);
            }
            return SIDE * y + x;
        }

        /** Whether it is the mishap's time, and one to whom it comes is there. */
        boolean comesNow(Course c, int i) {
            int row = i * MISHAP_ROW;
            if (c.second < town.mishapRows[row + FROM] || c.second > town.mishapRows[row + TO]) {
                return false;
            }
            int place = town.mishapRows[row + PLACE];
            int ward = town.mishapRows[row + WARD];
            if (town.hasWard(ward)) {
                return c.wardPlaces[ward] == place;
            }
            return howManyThere(c, place) > 0;
        }

        private void settle(Course c, int i, boolean inThought) {
            int row = i * MISHAP_ROW;
            int place = town.mishapRows[row + PLACE];
            int chance = town.mishapRows[row + CHANCE];
            c.came[i] = c.second;
            c.avertedBy[i] = lines.guarding(c.written, place, town.mishapRows[row + KIND], c.second - town.guard);
            if (c.avertedBy[i] != NONE) {
                c.over[i] = AVERTED;
            } else if (inThought || chance >= SURE || c.draw(100) < chance) {
                c.over[i] = HAPPENED;
            } else {
                c.over[i] = PASSED;
            }
        }
    }

    /** The TAPE and its tokens. */
    private static final class Tape {
        // The keywords by their place in WORDS; the steps of a way have their numbers there.
        static final int NORTH = 1;
        static final int EAST = 2;
        static final int SOUTH = 3;
        static final int WEST = 4;
        static final int AGAIN = 5;
        static final int MISHAP = 6;
        static final int AT = 7;
        static final int SINCE = 8;
        static final int UNTIL = 9;
        static final int WHOM = 10;
        static final int UNLESS = 11;
        static final int BY_CHANCE = 12;
        static final int PUSH = 13;
        static final int CAT = 17;
        static final int WAITING = 19;
        static final int WORKS = 20;
        static final int FAILS = 21;
        static final int WHEN = 22;
        static final int OR = 23;
        static final int AND = 24;
        static final int NOT = 25;
        static final int FIRST_VALUE = 26;
        static final int LAST_VALUE = 34;

        // One list serves all texts: a keyword of another text can stand nowhere, like no keyword at all.
        private static final String WORDS = "stand north east south west again mishap at from to ward unless chance push gust glove door cat go wait works fails when or and not kind second x y wards spoilt angel done pace";
        private static final String SIGNS = ";+-*/()<=>";

        // A sign's token is SIGN and its character.
        private static final int SIGN = 100;
        static final int SEMICOLON = SIGN + ';';
        static final int PLUS = SIGN + '+';
        static final int MINUS = SIGN + '-';
        static final int STAR = SIGN + '*';
        static final int SLASH = SIGN + '/';
        static final int OPENING = SIGN + '(';
        static final int CLOSING = SIGN + ')';
        static final int BELOW = SIGN + '<';
        static final int EQUALS = SIGN + '=';
        static final int ABOVE = SIGN + '>';

        static final int NUMBER = 50;
        static final int END = 51;
        private static final int NO_TOKEN = 52;

        private final byte[] bytes = new byte[TAPE];
        int length;
        final int[] kinds = new int[TAPE];
        final int[] numbers = new int[TAPE];
        final int[] places = new int[TAPE];
        int tokens;

        void append(int number) {
            for (int shift = 24; shift >= 0 && length < TAPE; shift -= 8) {
                bytes[length] = (byte) (number >> shift);
                length++;
            }
        }

        void scan() {
            tokens = 0;
            int next = 0;
            for (int i = 0; i < length; i = next) {
                next = i + 1;
                if (bytes[i] != 32 && bytes[i] != 10) {
                    int sort = sortOf(bytes[i]);
                    while (sort != 0 && next < length && sortOf(bytes[next]) == sort) {
                        next++;
                    }
                    note(sort, i, next);
                }
            }
        }

        /** 1: a letter, 2: a digit, 0: what stands alone. */
        private static int sortOf(int c) {
            if (c >= 'a' && c <= 'z' || c >= 'A' && c <= 'Z') {
                return 1;
            }
            return c >= '0' && c <= '9' ? 2 : 0;
        }

        private void note(int sort, int from, int to) {
            int kind = NO_TOKEN;
            int number = 0;
            if (sort == 1) {
                kind = wordOf(from, to);
            } else if (sort == 2 && to - from <= 4) {
                kind = NUMBER;
                for (int i = from; i < to; i++) {
                    number = 10 * number + bytes[i] - '0';
                }
            } else if (sort == 0 && bytes[from] > 0 && SIGNS.indexOf((char) bytes[from]) >= 0) {
                kind = SIGN + bytes[from];
            }
            if (tokens < TAPE) {
                kinds[tokens] = kind;
                numbers[tokens] = number;
                places[tokens] = from;
                tokens++;
            }
        }

        private int wordOf(int from, int to) {
            int word = 0;
            int start = 0;
            for (int i = 0; i <= WORDS.length(); i++) {
                if (i == WORDS.length() || WORDS.charAt(i) == ' ') {
                    if (i - start == to - from && isSame(from, to, start)) {
                        return word;
                    }
                    word++;
                    start = i + 1;
                }
            }
            return NO_TOKEN;
        }

        private boolean isSame(int from, int to, int start) {
            for (int i = from; i < to; i++) {
                int there = start + i - from;
                if (there >= WORDS.length() || bytes[i] != WORDS.charAt(there)) {
                    return false;
                }
            }
            return true;
        }
    }

    /** Reads a text into rows of its own, so that one with a fault alters nothing. */
    private static final class Reader {
        private static final int CANT_STAND = 1;
        private static final int BEYOND = 2;
        private static final int TOO_MANY = 3;
        private static final int TOO_LONG = 4;

        private static final int OPEN_AGAINS = 4;
        private static final int OPEN_SIGNS = 8;
        private static final int MOST_NUMBER = 9999;

        private final Tape tape;
        private final Town town;
        final int[] out = new int[SECONDS];
        int size;
        int count;
        final Law law = new Law();
        // The token that is next, and its kind.
        private int here;
        private int next;
        int fault;
        int place = NONE;

        Reader(Tape p, Town t) {
            tape = p;
            town = t;
        }

        /** The tape is text k (NONE: no text, but it is empty then all the same): what text() answers. */
        int read(int k) {
            fault = 0;
            place = NONE;
            size = 0;
            count = 0;
            tape.scan();
            here = -1;
            advance();
            boolean whole = false;
            if (k == 0) {
                whole = readSteps(0) && takes(Tape.END) && keepsTime();
            } else if (k == 1) {
                whole = readMishaps() && takes(Tape.END);
            } else if (k == 2) {
                whole = readPlan() && takes(Tape.END);
            } else if (k == 3) {
                whole = readLaw() && takes(Tape.END);
            }
            tape.length = 0;
            if (!whole) {
                return NONE;
            }
            return k == 0 ? size : count;
        }

        private void advance() {
            here++;
            next = here >= 0 && here < tape.tokens ? tape.kinds[here] : Tape.END;
        }

        /** A fault at the token that is next. */
        private boolean faulty(int which) {
            fault = which;
            place = here >= 0 && here < tape.tokens ? tape.places[here] : tape.length;
            return false;
        }

        private boolean keepsTime() {
            return size <= SECONDS || faulty(TOO_LONG);
        }

        private boolean takes(int kind) {
            if (next != kind) {
                return faulty(CANT_STAND);
            }
            advance();
            return true;
        }

        private boolean passes(int kind) {
            if (next != kind) {
                return false;
            }
            advance();
            return true;
        }

        private int number() {
            return here >= 0 && here < tape.tokens ? tape.numbers[here] : NONE;
        }

        /** The number that is next, or NONE with a fault. */
        private int takeNumber(int low, int high) {
            int number = number();
            if (next != Tape.NUMBER) {
                faulty(CANT_STAND);
                return NONE;
            }
            if (number < low || number > high) {
                faulty(BEYOND);
                return NONE;
            }
            advance();
            return number;
        }

        private int takePlace() {
            if (next == Tape.NUMBER && !town.hasPlace(number())) {
                faulty(BEYOND);
                return NONE;
            }
            return takeNumber(0, PLACES - 1);
        }

        private boolean readSteps(int open) {
            boolean good = true;
            for (int n = 0; n < TAPE && good && next <= Tape.AGAIN; n++) {
                good = next == Tape.AGAIN ? readAgain(open) : readStep();
            }
            return good;
        }

        private boolean readStep() {
            int step = next;
            advance();
            int n = takeNumber(1, 60);
            if (n == NONE || !takes(Tape.SEMICOLON)) {
                return false;
            }
            for (int i = size; i < size + n && i < SECONDS; i++) {
                out[i] = step;
            }
            size += n;
            return true;
        }

        private boolean readAgain(int open) {
            if (open >= OPEN_AGAINS) {
                return faulty(TOO_MANY);
            }
            advance();
            int times = takeNumber(1, 9);
            int start = size;
            if (times == NONE || !takes(Tape.OPENING) || !readSteps(open + 1) || !takes(Tape.CLOSING)) {
                return false;
            }
            int length = size - start;
            size = start + times * length;
            for (int i = start + length; i < size && i < SECONDS; i++) {
                out[i] = out[i - length];
            }
            return true;
        }

        private boolean readMishaps() {
            boolean good = true;
            for (int n = 0; n < TAPE && good && next == Tape.MISHAP; n++) {
                good = readMishap();
            }
            return good;
        }

        private boolean readMishap() {
            if (count >= MISHAPS) {
                return faulty(TOO_MANY);
            }
            advance();
            int row = count * MISHAP_ROW;
            out[row + HARM] = takeNumber(1, 99);
            if (fault != 0 || !takes(Tape.AT)) {
                return false;
            }
            out[row + PLACE] = takePlace();
            if (fault != 0 || !takes(Tape.SINCE)) {
                return false;
            }
            out[row + FROM] = takeNumber(0, SECONDS - 1);
            if (fault != 0 || !takes(Tape.UNTIL)) {
                return false;
            }
            out[row + TO] = takeNumber(out[row + FROM], SECONDS - 1);
            if (fault != 0 || !readConditions(row) || !takes(Tape.SEMICOLON)) {
                return false;
            }
            count++;
            size = count * MISHAP_ROW;
            return true;
        }

        private boolean readConditions(int row) {
            out[row + WARD] = NONE;
            out[row + KIND] = NONE;
            out[row + CHANCE] = SURE;
            if (passes(Tape.WHOM)) {
                out[row + WARD] = takeNumber(0, town.wards - 1);
            }
            if (fault == 0 && passes(Tape.UNLESS)) {
                if (!seesKind()) {
                    return faulty(CANT_STAND);
                }
                out[row + KIND] = next - Tape.PUSH;
                advance();
            }
            if (fault == 0 && passes(Tape.BY_CHANCE)) {
                out[row + CHANCE] = takeNumber(1, SURE);
            }
            return fault == 0;
        }

        private boolean seesKind() {
            return next >= Tape.PUSH && next <= Tape.CAT;
        }

        private boolean readPlan() {
            boolean good = true;
            for (int n = 0; n < TAPE && good && next >= Tape.PUSH && next <= Tape.WAITING; n++) {
                good = readOrder();
            }
            return good;
        }

        private boolean readOrder() {
            if (count >= ORDERS) {
                return faulty(TOO_MANY);
            }
            int order = next - Tape.PUSH;
            advance();
            int value = 0;
            if (order == GO) {
                value = takePlace();
            } else if (order == WAIT) {
                value = takeNumber(1, 60);
            }
            if (value == NONE || !takes(Tape.SEMICOLON)) {
                return false;
            }
            out[count * ORDER_ROW] = order;
            out[count * ORDER_ROW + 1] = value;
            count++;
            size = count * ORDER_ROW;
            return true;
        }

        private boolean readLaw() {
            law.clear();
            for (int n = 0; n < TAPE && (next == Tape.WORKS || next == Tape.FAILS); n++) {
                if (count >= LAW_LINES) {
                    return faulty(TOO_MANY);
                }
                boolean works = next == Tape.WORKS;
                advance();
                boolean good = !passes(Tape.WHEN) || readCondition(0);
                if (!good || !takes(Tape.SEMICOLON)) {
                    return false;
                }
                law.closeLine(works);
                count++;
            }
            return true;
        }

        /** B, with the A's of which it is made. */
        private boolean readCondition(int open) {
            boolean more = true;
            for (int n = 0; n < TAPE && more; n++) {
                boolean also = true;
                for (int m = 0; m < TAPE && also; m++) {
                    if (!readClause(open)) {
                        return false;
                    }
                    if (m > 0) {
                        law.emit(Law.AND);
                    }
                    also = passes(Tape.AND);
                }
                if (n > 0) {
                    law.emit(Law.OR);
                }
                more = passes(Tape.OR);
            }
            return true;
        }

        /** C. */
        private boolean readClause(int open) {
            int sign = next;
            if (sign == Tape.NOT || sign == Tape.OPENING) {
                if (open >= OPEN_SIGNS) {
                    return faulty(TOO_MANY);
                }
                advance();
                if (sign == Tape.OPENING) {
                    return readCondition(open + 1) && takes(Tape.CLOSING);
                }
                boolean good = readClause(open + 1);
                law.emit(Law.NOT);
                return good;
            }
            if (!readSum()) {
                return false;
            }
            int comparison = comparison();
            if (comparison == NONE) {
                return faulty(CANT_STAND);
            }
            advance();
            boolean good = readSum();
            law.emit(comparison);
            return good;
        }

        private int comparison() {
            switch (next) {
                case Tape.BELOW:
                    return Law.LESS;
                case Tape.EQUALS:
                    return Law.EQUAL;
                case Tape.ABOVE:
                    return Law.MORE;
                default:
                    return NONE;
            }
        }

        /** E, with the T's of which it is made: a + or - waits until the T behind it is whole. */
        private boolean readSum() {
            int waiting = NONE;
            boolean good = readUnit();
            for (int n = 0; n < TAPE && good; n++) {
                if (passes(Tape.STAR)) {
                    good = readUnit();
                    law.emit(Law.TIMES);
                } else if (passes(Tape.SLASH)) {
                    law.emit(Law.PUSH);
                    law.emit(number());
                    good = takeNumber(1, MOST_NUMBER) != NONE;
                    law.emit(Law.PART);
                } else {
                    if (waiting != NONE) {
                        law.emit(waiting);
                    }
                    if (next != Tape.PLUS && next != Tape.MINUS) {
                        return true;
                    }
                    waiting = next == Tape.PLUS ? Law.ADD : Law.SUBTRACT;
                    advance();
                    good = readUnit();
                }
            }
            return good;
        }

        /** U. */
        private boolean readUnit() {
            if (next == Tape.NUMBER) {
                law.emit(Law.PUSH);
                law.emit(number());
            } else if (next >= Tape.FIRST_VALUE && next <= Tape.LAST_VALUE) {
                law.emit(next - Tape.FIRST_VALUE);
            } else {
                return faulty(CANT_STAND);
            }
            advance();
            return true;
        }
    }

    /** What is to come: what is FORESEEN, PLANNED, WAIT, who could see to what alone, and NEAR. */
    private static final class Foresight {
        private final Town town;
        private final Course now;
        private final Play play;
        private final Course idea = new Course();
        private final int[] foreseen = new int[MISHAPS];
        private final int[] firstTrail = new int[SECONDS];
        private final int[] secondTrail = new int[SECONDS];
        boolean fresh;
        int plannedRisk;
        int plannedAverted;
        int meetHold;
        int meetSecond;

        Foresight(Town t, Course c, Play p) {
            town = t;
            now = c;
            play = p;
        }

        /** The second in which a mishap that is not over comes if no angel does anything more. */
        int comesIn(int i) {
            foresee();
            return i >= 0 && i < MISHAPS ? foreseen[i] : NONE;
        }

        private void foresee() {
            if (fresh) {
                return;
            }
            fresh = true;
            Arrays.fill(foreseen, NONE);
            idea.copyFrom(now);
            int last = lastSecond();
            for (int second = now.second; second <= last; second++) {
                idea.second = second;
                play.moveWards(idea);
                for (int i = 0; i < town.mishaps; i++) {
                    if (idea.over[i] == 0 && play.comesNow(idea, i)) {
                        idea.over[i] = HAPPENED;
                        foreseen[i] = second;
                    }
                }
            }
        }

        /** Behind this second nothing comes any more. */
        private int lastSecond() {
            int last = NONE;
            for (int i = 0; i < town.mishaps; i++) {
                if (now.over[i] == 0) {
                    last = Math.max(last, town.mishapRows[i * MISHAP_ROW + TO]);
                }
            }
            return last;
        }

        void plan() {
            idea.copyFrom(now);
            int last = lastSecond();
            for (int second = now.second; second <= last; second++) {
                play.goBy(idea, true);
            }
            plannedRisk = 0;
            plannedAverted = 0;
            for (int i = 0; i < town.mishaps; i++) {
                if (now.over[i] == 0 && idea.over[i] == HAPPENED) {
                    plannedRisk += town.risk(i);
                } else if (now.over[i] == 0 && idea.over[i] == AVERTED) {
                    plannedAverted++;
                }
            }
        }

        /** When an angel is at a place if he sets out now. */
        private int arrival(int a, int place) {
            return now.second + stepsBetween(now.angelPlaces[a], place) * town.paces[a];
        }

        private boolean couldAlone(int a, int i) {
            return foreseen[i] != NONE && arrival(a, town.mishapRows[i * MISHAP_ROW + PLACE]) <= foreseen[i];
        }

        int whoCould(int i) {
            foresee();
            int set = 0;
            for (int a = 0; a < town.angels; a++) {
                if (couldAlone(a, i)) {
                    set |= 1 << a;
                }
            }
            return set;
        }

        /** The mishaps that are foreseen and to which just so many angels could see alone. */
        int seenToBy(int angels) {
            foresee();
            int set = 0;
            for (int i = 0; i < town.mishaps; i++) {
                if (foreseen[i] != NONE && Integer.bitCount(whoCould(i)) == angels) {
                    set |= 1 << i;
                }
            }
            return set;
        }

        int bestWait(int a) {
            foresee();
            int best = 0;
            int most = 0;
            for (int place = 0; place < PLACES; place++) {
                int risk = 0;
                for (int i = 0; i < town.mishaps; i++) {
                    if (town.mishapRows[i * MISHAP_ROW + PLACE] == place && couldAlone(a, i)) {
                        risk += town.risk(i);
                    }
                }
                if (risk > most) {
                    most = risk;
                    best = place;
                }
            }
            return best;
        }

        /** Held for k seconds the first ward is where he would have been k seconds earlier. */
        void meet(int a, int b) {
            int length = walk(a, b);
            meetHold = NONE;
            meetSecond = NONE;
            for (int hold = 0; hold <= MOST_HOLD && meetHold == NONE; hold++) {
                for (int j = 0; j < length && meetHold == NONE; j++) {
                    int place = j < hold ? now.wardPlaces[a] : firstTrail[j - hold];
                    if (place == secondTrail[j]) {
                        meetHold = hold;
                        meetSecond = now.second + j;
                    }
                }
            }
        }

        private int walk(int a, int b) {
            idea.copyFrom(now);
            int length = Math.min(SECONDS - now.second, SECONDS);
            for (int j = 0; j < length; j++) {
                play.moveWards(idea);
                firstTrail[j] = idea.wardPlaces[a];
                secondTrail[j] = idea.wardPlaces[b];
            }
            return length;
        }
    }

    /**
     * SEEING TO, LEAST, FEWEST and WORTH. The mishaps that are foreseen are numbered anew without gaps (in
     * their order, so that of two sets the lesser one stays so); a set of them is one bit in a row of words.
     */
    private static final class Care {
        private static final int SETS = 1 << MISHAPS;
        private static final int WORDS = SETS / 32;
        // No more sets of ten can be so that none lies in another: those of five.
        private static final int MOST_WIDEST = 252;

        private final Town town;
        private final Course now;
        private final Foresight foresight;
        private int count;
        private final int[] picked = new int[MISHAPS];
        private final int[] comes = new int[MISHAPS];
        // The steps from one to another.
        private final int[] far = new int[MISHAPS * MISHAPS];
        private final int[] risks = new int[SETS];
        private final int[] alone = new int[ANGELS];
        // Of each angel the sets that he can see to; of each group of angels those that it can.
        private final int[] able = new int[ANGELS * WORDS];
        private final int[] covered = new int[GROUPS * WORDS];
        // Of each angel the sets that he can see to and that lie in no greater one.
        private final int[] widest = new int[ANGELS * MOST_WIDEST];
        private final int[] widestCounts = new int[ANGELS];
        private final int[] known = new int[GROUPS];
        // The second in which an angel is free again behind a set whose last mishap is this one.
        private final int[] free = new int[SETS * MISHAPS];
        private final int[] chosen = new int[ANGELS];
        private final int[] tried = new int[ANGELS];
        private boolean isChosen;
        private int fewestAngels;
        boolean fresh;

        Care(Town t, Course c, Foresight f) {
            town = t;
            now = c;
            foresight = f;
        }

        int riskLeft() {
            return risks[full()] - most(everybody());
        }

        int worth(int a) {
            return most(everybody()) - most(everybody() & ~(1 << a));
        }

        int setOf(int a) {
            choose();
            return spread(chosen[a]);
        }

        int setLeft() {
            choose();
            int left = full();
            for (int a = 0; a < town.angels; a++) {
                left &= ~chosen[a];
            }
            return spread(left);
        }

        int fewestGroup() {
            int most = most(everybody());
            for (int size = 0; size < town.angels && fewestAngels == NONE; size++) {
                fewestAngels = groupOf(size, most);
            }
            if (fewestAngels == NONE) {
                fewestAngels = everybody();
            }
            return fewestAngels;
        }

        /** The first group of so many angels that sees to so much, or NONE. */
        private int groupOf(int size, int most) {
            for (int group = 0; group <= everybody(); group++) {
                if (Integer.bitCount(group) == size && reach(group) >= most && most(group) == most) {
                    return group;
                }
            }
            return NONE;
        }

        /** The risk of all to which one or another of a group could see alone. */
        private int reach(int group) {
            int set = 0;
            for (int a = 0; a < town.angels; a++) {
                if ((group >> a & 1) != 0) {
                    set |= alone[a];
                }
            }
            return risks[set & full()];
        }

        private int everybody() {
            return (1 << town.angels) - 1;
        }

        private int full() {
            return (1 << count) - 1;
        }

        private int spread(int set) {
            int mishaps = 0;
            for (int n = 0; n < count; n++) {
                if ((set >> n & 1) != 0) {
                    mishaps |= 1 << picked[n];
                }
            }
            return mishaps;
        }

        private static boolean holds(int[] words, int row, int set) {
            int word = row * WORDS + (set >> 5);
            return word >= 0 && word < words.length && (words[word] >>> (set & 31) & 1) != 0;
        }

        private static void put(int[] words, int row, int set) {
            int word = row * WORDS + (set >> 5);
            if (word >= 0 && word < words.length) {
                words[word] |= 1 << (set & 31);
            }
        }

        /** To be called ahead of each question. */
        void prepare() {
            if (fresh) {
                return;
            }
            fresh = true;
            isChosen = false;
            fewestAngels = NONE;
            pick();
            measure();
            addRisks();
            Arrays.fill(able, 0);
            for (int a = 0; a < town.angels; a++) {
                findAble(a);
                findWidest(a);
            }
            Arrays.fill(covered, 0);
            Arrays.fill(known, 0);
            put(covered, 0, 0);
            known[0] = 1;
        }

        private void pick() {
            count = 0;
            for (int i = 0; i < town.mishaps; i++) {
                int second = foresight.comesIn(i);
                if (second != NONE && count < MISHAPS) {
                    picked[count] = i;
                    comes[count] = second;
                    count++;
                }
            }
        }

        private int placeOf(int n) {
            return town.mishapRows[picked[n] * MISHAP_ROW + PLACE];
        }

        private void measure() {
            for (int m = 0; m < count; m++) {
                for (int n = 0; n < count; n++) {
                    far[m * MISHAPS + n] = stepsBetween(placeOf(m), placeOf(n));
                }
            }
        }

        private void addRisks() {
            risks[0] = 0;
            for (int n = 0; n < count; n++) {
                int risk = town.risk(picked[n]);
                for (int set = 0; set < 1 << n; set++) {
                    risks[set | 1 << n] = risks[set] + risk;
                }
            }
        }

        private void findAble(int a) {
            alone[a] = 0;
            for (int n = 0; n < count; n++) {
                if (freeFirst(a, n) != NONE) {
                    alone[a] |= 1 << n;
                }
            }
            put(able, a, 0);
            for (int set = 1; set <= alone[a]; set++) {
                if ((set & ~alone[a]) == 0 && seesTo(a, set)) {
                    put(able, a, set);
                }
            }
        }

        /** Fills the set's row of free; the lesser sets have theirs by then. */
        private boolean seesTo(int a, int set) {
            boolean can = false;
            for (int n = 0; n < count; n++) {
                int before = set & ~(1 << n);
                int best = NONE;
                if (before == 0) {
                    best = freeFirst(a, n);
                } else if (before != set && holds(able, a, before)) {
                    best = freeLast(a, n, before);
                }
                free[set * MISHAPS + n] = best;
                can |= best != NONE;
            }
            return can;
        }

        private int freeFirst(int a, int n) {
            return freeBehind(a, n, now.second, stepsBetween(now.angelPlaces[a], placeOf(n)));
        }

        private int freeLast(int a, int n, int before) {
            int best = NONE;
            for (int m = 0; m < count; m++) {
                int since = free[before * MISHAPS + m];
                if ((before >> m & 1) != 0 && since != NONE) {
                    int then = freeBehind(a, n, since, far[m * MISHAPS + n]);
                    best = best == NONE || then != NONE && then < best ? then : best;
                }
            }
            return best;
        }

        /** When he is free again if he sets out in a second, so many steps away, to see to one, or NONE if too late. */
        private int freeBehind(int a, int n, int since, int steps) {
            int there = since + steps * town.paces[a];
            int doing = Math.max(there, comes[n] - town.guard);
            return doing <= comes[n] ? doing + 1 : NONE;
        }

        /** From the greatest number on, so that what a set lies in comes ahead of it. */
        private void findWidest(int a) {
            widestCounts[a] = 0;
            for (int set = alone[a]; set >= 0; set--) {
                if (holds(able, a, set) && !liesInWider(a, set) && widestCounts[a] < MOST_WIDEST) {
                    widest[a * MOST_WIDEST + widestCounts[a]] = set;
                    widestCounts[a]++;
                }
            }
        }

        private boolean liesInWider(int a, int set) {
            for (int i = 0; i < widestCounts[a]; i++) {
                if ((set & ~widest[a * MOST_WIDEST + i]) == 0) {
                    return true;
                }
            }
            return false;
        }

        /** The greatest risk that a group sees to. */
        private int most(int group) {
            learn(group);
            int most = 0;
            for (int set = 0; set <= full(); set++) {
                if (risks[set] > most && holds(covered, group, set)) {
                    most = risks[set];
                }
            }
            return most;
        }

        /** A group is learnt from its last angel on, so that share() knows of those behind each angel. */
        private void learn(int group) {
            int part = 0;
            for (int a = town.angels - 1; a >= 0; a--) {
                if ((group >> a & 1) != 0) {
                    int joint = part | 1 << a;
                    if (known[joint] == 0) {
                        known[joint] = 1;
                        join(a, part, joint);
                    }
                    part = joint;
                }
            }
        }

        private void join(int a, int part, int joint) {
            put(covered, joint, 0);
            int highest = 1;
            for (int set = 1; set <= full(); set++) {
                highest = set == 2 * highest ? set : highest;
                // What is seen to is seen to without one of it too, so most sets need not be split in vain.
                boolean hope = holds(covered, joint, set & set - 1) && holds(covered, joint, set & ~highest);
                if (hope && splits(a, part, set)) {
                    put(covered, joint, set);
                }
            }
        }

        /**
         * Whether the angel sees to some of a set and the others of the group to what is left of it. The more
         * he takes the less is left, so only the widest of his sets need be tried.
         */
        private boolean splits(int a, int part, int set) {
            for (int i = 0; i < widestCounts[a]; i++) {
                if (holds(covered, part, set & ~widest[a * MOST_WIDEST + i])) {
                    return true;
                }
            }
            return false;
        }

        /** The first of the ways to see to the most. */
        private void choose() {
            if (isChosen) {
                return;
            }
            int most = most(everybody());
            for (int set = 0; set <= full(); set++) {
                if (risks[set] == most && holds(covered, everybody(), set)) {
                    share(set);
                    if (!isChosen || isEarlier()) {
                        System.arraycopy(tried, 0, chosen, 0, ANGELS);
                    }
                    isChosen = true;
                }
            }
        }

        /** The first way in which all angels together see to just this set. */
        private void share(int set) {
            int rest = set;
            int group = everybody();
            for (int a = 0; a < town.angels; a++) {
                group &= ~(1 << a);
                tried[a] = 0;
                for (int s = 0; s <= rest; s++) {
                    if ((s & ~rest) == 0 && holds(able, a, s) && holds(covered, group, rest & ~s)) {
                        tried[a] = s;
                        break;
                    }
                }
                rest &= ~tried[a];
            }
        }

        private boolean isEarlier() {
            for (int a = 0; a < town.angels; a++) {
                if (tried[a] != chosen[a]) {
                    return tried[a] < chosen[a];
                }
            }
            return false;
        }
    }
}
