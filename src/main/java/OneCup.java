import java.util.Arrays;

/** What several hands did to one cup: told, run, ordered by law, looked through for what nothing orders. */
public final class OneCup {
    public static final int NONE = -1;

    private static final int NOTHING = -2000000000;
    private static final int REFUSED = -2;
    private static final int TOO_MANY = -3;
    private static final int FAULTY = -4;
    private static final int EMPTY = -6;
    private static final int BEYOND = -7;
    private static final int UNLIKE = -8;

    private static final int HANDS = 6;
    private static final int CELLS = 8;
    private static final int BOLTS = 4;
    private static final int NOTES = 3;
    private static final int MOST_CODES = 60;
    private static final int MOST_ACTS = HANDS * MOST_CODES;
    private static final int MOST_BYTES = 900;
    private static final int MOST_WITHIN = 4;
    private static final int MOST_STATES = 3000;
    private static final int MOST_PAIRS = 100;
    private static final int MOST_KEPT_TOUCHES = 40;
    private static final int SLOTS = 4;
    private static final int WIDTHS = 4;
    private static final int ROW_ROOM = 60;
    private static final int IMAGES = 3;

    private static final int READ = 0;
    private static final int WRITE = 1;
    private static final int TURN = 2;
    private static final int TAKE = 3;
    private static final int GIVE = 4;
    private static final int SEND = 5;
    private static final int GET = 6;
    private static final int START = 7;
    private static final int WAIT = 8;
    private static final int IN = 9;
    private static final int OUT = 10;

    // Steps that are no acts of their own.
    private static final int MOVE = 11;
    private static final int IF = 12;
    private static final int TIMES = 13;
    private static final int GATE = 14;
    private static final int HAND = 15;

    // What a code is beside its sort.
    private static final int PLAIN = 0;
    private static final int MOVED = 1;
    private static final int LESS = 2;
    private static final int SAME = 3;

    private static final int LAW_BOLTS = 0;
    private static final int LAW_NOTES = 1;
    private static final int LAW_STARTS = 2;
    private static final int LAW_WAITS = 3;
    private static final int LAW_TURNS = 4;
    private static final int LAWS = 5;
    private static final int ALL_LAWS = 31;
    private static final int ALL_MARKS = 127;
    private static final int ALL_BOLTS = 15;
    private static final int NO_LIMIT = 1000000;

    private final Reader reader = new Reader();
    private final Evening now = new Evening();
    private final Evening[] images = new Evening[IMAGES];
    private final Links links = new Links();
    private final Clocks clocks = new Clocks();
    private final Clocks trial = new Clocks();
    private boolean clocksStand;
    private final Machine machine = new Machine();
    private final Machine other = new Machine();
    private final Visited visited = new Visited();
    private final Orders orders = new Orders();
    private final AllRuns allRuns = new AllRuns();
    private final int[] rowWidth = new int[SLOTS];
    private final int[] rowLength = new int[SLOTS];
    private final long[] rowNumbers = new long[SLOTS * ROW_ROOM];
    private int refusals;
    private int statesGone;

    public OneCup() {
        for (int s = 0; s < SLOTS; s++) {
            rowLength[s] = NONE;
        }
        links.build(now.log);
    }

    // ---- the text ----

    public int feed(int a, int b, int c, int d, int e) {
        if (reader.length > MOST_BYTES - 20) {
            return NONE;
        }
        reader.put(a);
        reader.put(b);
        reader.put(c);
        reader.put(d);
        reader.put(e);
        return reader.length;
    }

    public int end(int n) {
        if (n < 0 || n > reader.length) {
            return NONE;
        }
        reader.length = n;
        return n;
    }

    public int text() {
        boolean sound = reader.parse();
        reader.length = 0;
        if (!sound) {
            return FAULTY;
        }
        now.script.copyFrom(reader.draft);
        now.log.clear();
        allRuns.gone = false;
        logIsMade();
        return Integer.bitCount(now.script.told);
    }

    public int fault(int what) {
        if (what == 0) {
            return reader.fault;
        }
        return what == 1 ? reader.faultPlace : NONE;
    }

    // ---- runs ----

    public int run(int slot) {
        if (!isSlot(slot)) {
            return refuse();
        }
        if (!hasRow(slot)) {
            return EMPTY;
        }
        return newRun(slot);
    }

    public int runs() {
        return newRun(NONE);
    }

    /** A new RUN, by the row of a slot, or by none. */
    private int newRun(int slot) {
        machine.begin(now.script);
        now.log.clear();
        now.idle = 0;
        int told = isSlot(slot) ? rowLength[slot] : 0;
        for (int k = 0; k < told; k++) {
            long number = rowNumbers[slot * ROW_ROOM + k];
            if (number >= 0 && number < HANDS && machine.can((int) number)) {
                goOnce((int) number);
            } else {
                now.idle++;
            }
        }
        for (int k = 0; k <= MOST_ACTS; k++) {
            int hand = machine.leastThatCan();
            if (hand < 0) {
                break;
            }
            goOnce(hand);
        }
        now.log.close(machine);
        now.runCount++;
        logIsMade();
        return now.log.n;
    }

    private void goOnce(int hand) {
        int code = machine.go(hand);
        if (code >= 0) {
            now.log.add(hand, now.script, code, machine);
        }
    }

    private void logIsMade() {
        links.build(now.log);
        clocksStand = false;
        orders.has = false;
    }

    public int act(int i, int what) {
        if (!isAct(i)) {
            return NOTHING;
        }
        Log log = now.log;
        switch (what) {
            case 0:
                return log.hand[i];
            case 1:
                return log.sort[i];
            case 2:
                return log.arg[i];
            case 3:
                return log.value[i];
            case 4:
                return log.place[i];
            case 5:
                return log.ahead[i];
            case 6:
                return log.bolts[i];
            default:
                return NOTHING;
        }
    }

    public int cell(int c) {
        return isCell(c) ? now.log.cells[c] : NOTHING;
    }

    public int stuck() {
        return now.log.stuck;
    }

    // ---- the law, and what it orders ----

    public int law(int sort, boolean is) {
        if (sort < 0 || sort >= LAWS) {
            return refuse();
        }
        int old = (now.laws >> sort) & 1;
        int bit = 1 << sort;
        now.laws = is ? now.laws | bit : now.laws & ~bit;
        clocksStand = false;
        return old;
    }

    public int before(int i, int j) {
        if (!isAct(i) || !isAct(j)) {
            return refuse();
        }
        return lawClocks().isBefore(now.log, i, j) ? 1 : 0;
    }

    public int way(int i, int j, int k) {
        if (!isAct(i) || !isAct(j)) {
            return refuse();
        }
        if (!lawClocks().isBefore(now.log, i, j)) {
            return NONE;
        }
        return clocks.wayAt(now.log, links, i, j, k);
    }

    /** The clocks of the laws as they are, with all acts and no guards. */
    private Clocks lawClocks() {
        if (!clocksStand) {
            clocks.fill(now.log, links, now.laws, ALL_MARKS, 0);
            clocksStand = true;
        }
        return clocks;
    }

    public int meets() {
        return lawClocks().countAll(now.log, links, NO_LIMIT);
    }

    public int meet(int k, int what) {
        if (k < 0 || what < 0 || what > 4) {
            return NOTHING;
        }
        Clocks law = lawClocks();
        Log log = now.log;
        int left = k;
        for (int j = 0; j < log.n; j++) {
            int here = law.countBehind(log, links, j);
            if (left < here) {
                return tellMeeting(law.aheadOf(log, j, left), j, what);
            }
            left -= here;
        }
        return NOTHING;
    }

    private int tellMeeting(int i, int j, int what) {
        if (!isAct(i) || !isAct(j)) {
            return NOTHING;
        }
        switch (what) {
            case 0:
                return i;
            case 1:
                return j;
            case 2:
                return now.log.arg[j];
            case 3:
                return now.log.place[i];
            case 4:
                return now.log.place[j];
            default:
                return NOTHING;
        }
    }

    public int first(int c) {
        if (!isCell(c)) {
            return refuse();
        }
        Clocks law = lawClocks();
        int passed = 0;
        for (int j = 0; j < now.log.n; j++) {
            int here = law.countBehind(now.log, links, j);
            if (here > 0 && now.log.arg[j] == c) {
                return passed;
            }
            passed += here;
        }
        return NONE;
    }

    public int small(int k) {
        if (k < 1 || k > MOST_KEPT_TOUCHES) {
            return refuse();
        }
        Clocks law = lawClocks();
        Log log = now.log;
        int found = 0;
        for (int j = 0; j < log.n; j++) {
            int i = log.isTouch(j) ? links.previous[j] : NONE;
            for (int kept = 0; kept < k && i >= 0; kept++) {
                if (law.isMeeting(log, i, j)) {
                    found++;
                }
                i = links.previous[i];
            }
        }
        return found;
    }

    // ---- other orders ----

    public int could(int i, int j) {
        if (!isAct(i) || !isAct(j) || now.log.hand[i] == now.log.hand[j]) {
            return refuse();
        }
        int answer = orders.seek(now.log, links, visited, i, j);
        statesGone = visited.n;
        return answer;
    }

    public int shown(int k) {
        return k >= 0 && k < orders.shownLength ? orders.shownHand[k] : NONE;
    }

    public int harm() {
        if (!orders.has || !isAct(orders.one) || !isAct(orders.two)) {
            return NONE;
        }
        int handOne = now.log.hand[orders.one];
        int handTwo = now.log.hand[orders.two];
        replay(machine, handOne, handTwo);
        replay(other, handTwo, handOne);
        int bits = 0;
        for (int c = 0; c < CELLS; c++) {
            if (machine.cells[c] != other.cells[c]) {
                bits |= 1 << c;
            }
        }
        return machine.stuckBits() == other.stuckBits() ? bits : bits | 256;
    }

    private void replay(Machine m, int hand, int nextHand) {
        m.begin(now.script);
        for (int k = 0; k < orders.shownLength; k++) {
            m.goTillAct(orders.shownHand[k]);
        }
        m.goTillAct(hand);
        m.goTillAct(nextHand);
        m.finish();
    }

    // ---- bolts held by habit ----

    public int always(int c) {
        if (!isCell(c)) {
            return refuse();
        }
        int held = ALL_BOLTS;
        for (int i = 0; i < now.log.n; i++) {
            if (now.log.isTouch(i) && now.log.arg[i] == c) {
                held &= now.log.bolts[i];
            }
        }
        return held;
    }

    public int habit() {
        Log log = now.log;
        int pairs = 0;
        for (int j = 0; j < log.n; j++) {
            for (int i = 0; i < j; i++) {
                if (log.areRivals(i, j) && (log.bolts[i] & log.bolts[j]) == 0) {
                    pairs++;
                }
            }
        }
        return pairs;
    }

    /** Four bits for each bolt: those that lead on from it, first at one step, then at any number. */
    public int ring() {
        Log log = now.log;
        int leads = 0;
        for (int i = 0; i < log.n; i++) {
            if (log.sort[i] == TAKE) {
                leads |= edgesTo(log.bolts[i], log.arg[i]);
            }
        }
        for (int mid = 0; mid < BOLTS; mid++) {
            int on = (leads >> (mid * BOLTS)) & ALL_BOLTS;
            for (int p = 0; p < BOLTS; p++) {
                if (((leads >> (p * BOLTS + mid)) & 1) != 0) {
                    leads |= on << (p * BOLTS);
                }
            }
        }
        int bits = 0;
        for (int p = 0; p < BOLTS; p++) {
            bits |= ((leads >> (p * BOLTS + p)) & 1) << p;
        }
        return bits;
    }

    private static int edgesTo(int heldBehind, int bolt) {
        int edges = 0;
        for (int p = 0; p < BOLTS; p++) {
            if (p != bolt && ((heldBehind >> p) & 1) != 0) {
                edges |= 1 << (p * BOLTS + bolt);
            }
        }
        return edges;
    }

    // ---- all runs ----

    public int ends() {
        goThroughAllRuns();
        return allRuns.spent ? TOO_MANY : allRuns.endCount;
    }

    public int waits() {
        goThroughAllRuns();
        return allRuns.spent ? TOO_MANY : allRuns.tellWaiting();
    }

    public int led(int k) {
        return k >= 0 && k < allRuns.ledLength ? allRuns.ledHand[k] : NONE;
    }

    /** They depend on the text alone, so they are gone through once for each. */
    private void goThroughAllRuns() {
        if (!allRuns.gone) {
            allRuns.explore(now.script, machine, visited);
        }
        statesGone = allRuns.states;
    }

    // ---- what must be logged, what must be guarded ----

    public int may(int set) {
        if (set < 0 || set > ALL_MARKS) {
            return refuse();
        }
        return meetingsBy(set, 0, NO_LIMIT);
    }

    public int least() {
        int due = meets();
        for (int size = 0; size <= BOLTS + NOTES; size++) {
            for (int set = 0; set <= ALL_MARKS; set++) {
                boolean fits = Integer.bitCount(set) == size && (set & ~links.marksUsed) == 0;
                if (fits && meetingsBy(set, 0, due) == due) {
                    return set;
                }
            }
        }
        return ALL_MARKS;
    }

    public int mend() {
        for (int size = 0; size <= CELLS; size++) {
            for (int guards = 0; guards < 1 << CELLS; guards++) {
                boolean fits = Integer.bitCount(guards) == size && (guards & ~links.cellsTouched) == 0;
                if (fits && meetingsBy(ALL_MARKS, guards, 0) == 0) {
                    return guards;
                }
            }
        }
        return (1 << CELLS) - 1;
    }

    /** MEETINGS by these bolts and notes and these guarded cells; counting may stop above the limit. */
    private int meetingsBy(int set, int guards, int limit) {
        trial.fill(now.log, links, now.laws, set, guards);
        return trial.countAll(now.log, links, limit);
    }

    // ---- gates ----

    public int gates() {
        int ins = 0;
        for (int i = 0; i < now.log.n; i++) {
            if (now.log.sort[i] == IN) {
                ins++;
            }
        }
        return ins;
    }

    public int blink(int g) {
        int left = g;
        for (int i = 0; i < now.log.n && left >= 0; i++) {
            if (now.log.sort[i] != IN) {
                continue;
            }
            if (left == 0) {
                return links.isOnRing(now.log, i) ? 0 : 1;
            }
            left--;
        }
        return NONE;
    }

    // ---- the book ----

    public int join() {
        if (now.log.joined) {
            return NONE;
        }
        int fresh = now.book.enter(now.log, lawClocks());
        if (fresh < 0) {
            return TOO_MANY;
        }
        now.log.joined = true;
        return fresh;
    }

    public int joined(int k, int what) {
        Book book = now.book;
        if (k < 0 || k >= book.n) {
            return NOTHING;
        }
        switch (what) {
            case 0:
                return book.low[k];
            case 1:
                return book.high[k];
            case 2:
                return book.about[k];
            case 3:
                return book.times[k];
            case 4:
                return book.from[k];
            case 5:
                return book.till[k];
            default:
                return NOTHING;
        }
    }

    public int status(int what) {
        switch (what) {
            case 0:
                return Integer.bitCount(now.script.told);
            case 1:
                return now.log.n;
            case 2:
                return now.runCount;
            case 3:
                return now.idle;
            case 4:
                return now.book.n;
            case 5:
                return reader.length;
            case 6:
                return now.laws;
            case 7:
                return statesGone;
            case 8:
                return rowsThere();
            case 9:
                return now.book.logs;
            case 10:
                return refusals;
            default:
                return NONE;
        }
    }

    private int rowsThere() {
        int there = 0;
        for (int s = 0; s < SLOTS; s++) {
            if (rowLength[s] >= 0) {
                there++;
            }
        }
        return there;
    }

    // ---- images ----

    public int keep(int k) {
        if (k < 0 || k >= IMAGES) {
            return refuse();
        }
        Evening image = images[k];
        if (image == null) {
            image = new Evening();
            images[k] = image;
        }
        image.copyFrom(now);
        return 0;
    }

    public int back(int k) {
        if (k < 0 || k >= IMAGES) {
            return refuse();
        }
        Evening image = images[k];
        if (image == null) {
            return EMPTY;
        }
        now.copyFrom(image);
        allRuns.gone = false;
        logIsMade();
        return 0;
    }

    // ---- slots ----

    public int row(int slot, int width, int n) {
        if (!isSlot(slot) || width < 0 || width >= WIDTHS || n > ROW_ROOM) {
            return refuse();
        }
        if (n < 0) {
            return TOO_MANY;
        }
        rowWidth[slot] = width;
        rowLength[slot] = n;
        for (int k = 0; k < n; k++) {
            rowNumbers[slot * ROW_ROOM + k] = 0;
        }
        return 0;
    }

    public int write(int slot, int i, long v) {
        if (!isSlot(slot)) {
            return refuse();
        }
        if (!hasRow(slot)) {
            return EMPTY;
        }
        if (i < 0 || i >= rowLength[slot]) {
            return BEYOND;
        }
        rowNumbers[slot * ROW_ROOM + i] = cut(v, rowWidth[slot]);
        return 0;
    }

    private static long cut(long v, int width) {
        switch (width) {
            case 0:
                return (byte) v;
            case 1:
                return (short) v;
            case 2:
                return (int) v;
            default:
                return v;
        }
    }

    public int paste(int slot, int i, int to, int k, int n) {
        if (!isSlot(slot) || !isSlot(to)) {
            return refuse();
        }
        if (!hasRow(slot) || !hasRow(to)) {
            return EMPTY;
        }
        if (rowWidth[slot] != rowWidth[to]) {
            return UNLIKE;
        }
        if (i < 0 || k < 0 || n < 0 || i > rowLength[slot] - n || k > rowLength[to] - n) {
            return BEYOND;
        }
        System.arraycopy(rowNumbers, slot * ROW_ROOM + i, rowNumbers, to * ROW_ROOM + k, n);
        return 0;
    }

    // ---- small questions ----

    private int refuse() {
        refusals++;
        return REFUSED;
    }

    private boolean isAct(int i) {
        return i >= 0 && i < now.log.n;
    }

    private boolean hasRow(int slot) {
        return isSlot(slot) && rowLength[slot] >= 0;
    }

    private static boolean isSlot(int slot) {
        return slot >= 0 && slot < SLOTS;
    }

    private static boolean isCell(int c) {
        return c >= 0 && c < CELLS;
    }

    /** A TEXT as codes: those of hand h stand from h * MOST_CODES on. */
    private static final class Script {
        final int[] sort = new int[MOST_ACTS];
        final int[] arg = new int[MOST_ACTS];
        final int[] number = new int[MOST_ACTS];
        final int[] kind = new int[MOST_ACTS];
        final int[] skip = new int[MOST_ACTS];
        final int[] place = new int[MOST_ACTS];
        final int[] count = new int[HANDS];
        int told;

        void clear() {
            Arrays.fill(count, 0);
            told = 0;
        }

        void copyFrom(Script from) {
            System.arraycopy(from.sort, 0, sort, 0, MOST_ACTS);
            System.arraycopy(from.arg, 0, arg, 0, MOST_ACTS);
            System.arraycopy(from.number, 0, number, 0, MOST_ACTS);
            System.arraycopy(from.kind, 0, kind, 0, MOST_ACTS);
            System.arraycopy(from.skip, 0, skip, 0, MOST_ACTS);
            System.arraycopy(from.place, 0, place, 0, MOST_ACTS);
            System.arraycopy(from.count, 0, count, 0, HANDS);
            told = from.told;
        }

        /** Counts one code too many and no more: that is enough to find the fault. */
        void add(int hand, int codeSort, int codeArg, int codeNumber, int codeKind, int codePlace) {
            if (hand < 0 || hand >= HANDS || count[hand] > MOST_CODES) {
                return;
            }
            if (count[hand] < MOST_CODES) {
                int c = hand * MOST_CODES + count[hand];
                sort[c] = codeSort;
                arg[c] = codeArg;
                number[c] = codeNumber;
                kind[c] = codeKind;
                skip[c] = 0;
                place[c] = codePlace;
            }
            count[hand]++;
        }

        int countOf(int hand) {
            return hand >= 0 && hand < HANDS ? count[hand] : 0;
        }

        /** The if at m leaves out all codes behind it so far. */
        void closeIf(int hand, int m) {
            if (hand >= 0 && hand < HANDS && m >= 0 && m < MOST_CODES) {
                skip[hand * MOST_CODES + m] = count[hand] - m - 1;
            }
        }

        /** The codes from one on stand so many times in all. */
        void repeat(int hand, int from, int times) {
            int till = countOf(hand);
            if (hand < 0 || hand >= HANDS || from < 0 || till > MOST_CODES) {
                return;
            }
            for (int round = 1; round < times; round++) {
                for (int m = from; m < till; m++) {
                    addAgain(hand, hand * MOST_CODES + m);
                }
            }
        }

        private void addAgain(int hand, int c) {
            int made = count[hand];
            add(hand, sort[c], arg[c], number[c], kind[c], place[c]);
            if (made < MOST_CODES) {
                skip[hand * MOST_CODES + made] = skip[c];
            }
        }
    }

    /** Reads the TAPE into a draft of a TEXT, or finds its first FAULT. */
    private static final class Reader {
        static final int TAPE_END = 0;
        static final int WORD = 1;
        static final int NUMBER = 2;
        static final int UNKNOWN = 3;
        static final int MOST_NUMBER = 100000;

        final byte[] tape = new byte[MOST_BYTES];
        int length;
        final Script draft = new Script();
        int fault;
        int faultPlace = NONE;
        /** The byte behind the token; the token, a sign as its byte; its place; its number. */
        private int at;
        private int token;
        private int place;
        private int number;
        /** The braces that are open, the hand's first. */
        private int depth;
        private int hand;
        private final int[] openStep = new int[MOST_WITHIN + 1];
        private final int[] openFrom = new int[MOST_WITHIN + 1];
        private final int[] openNumber = new int[MOST_WITHIN + 1];
        private final int[] openPlace = new int[MOST_WITHIN + 1];

        void put(int four) {
            for (int shift = 24; shift >= 0; shift -= 8) {
                if (length < MOST_BYTES) {
                    tape[length] = (byte) (four >>> shift);
                    length++;
                }
            }
        }

        boolean parse() {
            draft.clear();
            fault = 0;
            faultPlace = NONE;
            at = 0;
            depth = 0;
            hand = 0;
            advance();
            for (int k = 0; k <= MOST_BYTES; k++) {
                if (fault != 0 || (depth == 0 && token == TAPE_END)) {
                    break;
                }
                if (depth == 0) {
                    readHead();
                } else if (token == '}') {
                    closeBrace();
                } else {
                    readStep();
                }
            }
            return fault == 0;
        }

        private void fail(int what) {
            if (fault == 0) {
                fault = what;
                faultPlace = place;
            }
        }

        private int byteAt(int i) {
            return i >= 0 && i < length && i < MOST_BYTES ? tape[i] : 0;
        }

        private static boolean isLetter(int b) {
            return b >= 'a' && b <= 'z';
        }

        private static boolean isDigit(int b) {
            return b >= '0' && b <= '9';
        }

        private static boolean isSign(int b) {
            return b == '{' || b == '}' || b == ';' || b == '<' || b == '=';
        }

        private void advance() {
            while (at < length && (byteAt(at) == 32 || byteAt(at) == 10)) {
                at++;
            }
            place = at;
            if (at >= length) {
                token = TAPE_END;
                return;
            }
            int b = byteAt(at);
            if (isLetter(b)) {
                token = WORD;
                while (at < length && isLetter(byteAt(at))) {
                    at++;
                }
            } else if (isDigit(b)) {
                token = NUMBER;
                number = 0;
                while (at < length && isDigit(byteAt(at))) {
                    number = Math.min(number * 10 + byteAt(at) - '0', MOST_NUMBER);
                    at++;
                }
            } else {
                token = isSign(b) ? b : UNKNOWN;
                at++;
            }
        }

        private boolean isWord(String word) {
            if (token != WORD || at - place != word.length()) {
                return false;
            }
            for (int k = 0; k < word.length(); k++) {
                if (byteAt(place + k) != word.charAt(k)) {
                    return false;
                }
            }
            return true;
        }

        private void pass(int sign) {
            if (token == sign) {
                advance();
            } else {
                fail(1);
            }
        }

        /** A word of one letter, told from the first one that may stand here. */
        private int passLetter(int from, int till) {
            int b = byteAt(place);
            if (token != WORD || at - place != 1 || b < from || b > till) {
                fail(1);
                return 0;
            }
            advance();
            return b - from;
        }

        private int numberHere(int least, int most) {
            if (token != NUMBER) {
                fail(1);
                return least;
            }
            if (number < least || number > most) {
                fail(2);
                return least;
            }
            return number;
        }

        private int passWithin(int least, int most) {
            int found = numberHere(least, most);
            if (fault == 0) {
                advance();
            }
            return found;
        }

        private void readHead() {
            if (!isWord("hand")) {
                fail(1);
                return;
            }
            advance();
            int told = numberHere(0, HANDS - 1);
            if (((draft.told >> told) & 1) != 0) {
                fail(2);
            }
            if (fault != 0) {
                return;
            }
            advance();
            hand = told;
            draft.told |= 1 << told;
            openBrace(HAND, 0, 0, place);
        }

        private void openBrace(int step, int from, int times, int stepPlace) {
            if (token != '{') {
                fail(1);
            } else if (depth > MOST_WITHIN) {
                fail(3);
            }
            if (fault != 0) {
                return;
            }
            openStep[depth] = step;
            openFrom[depth] = from;
            openNumber[depth] = times;
            openPlace[depth] = stepPlace;
            depth++;
            advance();
        }

        private void closeBrace() {
            if (depth < 1 || depth > MOST_WITHIN + 1) {
                fail(1);
                return;
            }
            depth--;
            switch (openStep[depth]) {
                case IF:
                    draft.closeIf(hand, openFrom[depth]);
                    break;
                case TIMES:
                    draft.repeat(hand, openFrom[depth], openNumber[depth]);
                    break;
                case GATE:
                    draft.add(hand, OUT, 0, 0, PLAIN, openPlace[depth]);
                    break;
                default:
                    if (draft.countOf(hand) > MOST_CODES) {
                        fail(3);
                    }
                    break;
            }
            advance();
        }

        private void readStep() {
            int from = place;
            int step = stepOfWord();
            if (step < 0) {
                fail(1);
                return;
            }
            advance();
            if (step == IF || step == TIMES || step == GATE) {
                readOpening(step, from);
            } else {
                readPlain(step, from);
                pass(';');
            }
        }

        private int stepOfWord() {
            if (isWord("read")) {
                return READ;
            }
            if (isWord("write")) {
                return WRITE;
            }
            if (isWord("move")) {
                return MOVE;
            }
            if (isWord("turn")) {
                return TURN;
            }
            if (isWord("take")) {
                return TAKE;
            }
            if (isWord("give")) {
                return GIVE;
            }
            if (isWord("send")) {
                return SEND;
            }
            if (isWord("get")) {
                return GET;
            }
            if (isWord("start")) {
                return START;
            }
            if (isWord("wait")) {
                return WAIT;
            }
            if (isWord("if")) {
                return IF;
            }
            if (isWord("times")) {
                return TIMES;
            }
            return isWord("gate") ? GATE : NONE;
        }

        private void readOpening(int step, int from) {
            int first = draft.countOf(hand);
            int times = 0;
            if (step == IF) {
                int about = passLetter('a', 'h');
                int kind = token == '<' ? LESS : SAME;
                pass(kind == LESS ? '<' : '=');
                draft.add(hand, READ, about, passWithin(0, 999), kind, from);
            } else if (step == TIMES) {
                times = passWithin(2, 9);
            } else {
                draft.add(hand, IN, 0, 0, PLAIN, from);
            }
            openBrace(step, first, times, from);
        }

        private void readPlain(int step, int from) {
            switch (step) {
                case READ:
                    draft.add(hand, READ, passLetter('a', 'h'), 0, PLAIN, from);
                    break;
                case WRITE:
                case TURN:
                    int about = passLetter('a', 'h');
                    draft.add(hand, step, about, passWithin(0, 999), PLAIN, from);
                    break;
                case MOVE:
                    draft.add(hand, READ, passLetter('a', 'h'), 0, MOVED, from);
                    draft.add(hand, WRITE, passLetter('a', 'h'), 0, MOVED, from);
                    break;
                case TAKE:
                case GIVE:
                    draft.add(hand, step, passLetter('p', 's'), 0, PLAIN, from);
                    break;
                case SEND:
                case GET:
                    draft.add(hand, step, passLetter('x', 'z'), 0, PLAIN, from);
                    break;
                default:
                    draft.add(hand, step, passWithin(0, HANDS - 1), 0, PLAIN, from);
                    break;
            }
        }
    }

    /** How far a RUN is. */
    private static final class Machine {
        /** Ints that hold all of it, for states. */
        static final int ROOM = 17;
        static final int CELLS_FROM = 3;
        private static final int MOVED_FROM = 11;

        final int[] cells = new int[CELLS];
        private Script script;
        private final int[] next = new int[HANDS];
        /** What a hand has read for a move and not yet written. */
        private final int[] moved = new int[HANDS];
        /** The hand that has a bolt, from 1 on; 0: it is free. */
        private final int[] holder = new int[BOLTS];
        private final int[] notes = new int[NOTES];
        private int started;

        void begin(Script by) {
            script = by;
            Arrays.fill(cells, 0);
            Arrays.fill(next, 0);
            Arrays.fill(moved, 0);
            Arrays.fill(holder, 0);
            Arrays.fill(notes, 0);
            started = 1;
        }

        private boolean isStarted(int hand) {
            return ((started >> hand) & 1) != 0;
        }

        private boolean hasCode(int hand) {
            return script != null && next[hand] >= 0 && next[hand] < MOST_CODES && next[hand] < script.count[hand];
        }

        boolean can(int hand) {
            if (hand < 0 || hand >= HANDS || !isStarted(hand) || !hasCode(hand)) {
                return false;
            }
            int code = hand * MOST_CODES + next[hand];
            int arg = script.arg[code];
            switch (script.sort[code]) {
                case TAKE:
                    return holder[arg] == 0;
                case GET:
                    return notes[arg] > 0;
                case WAIT:
                    return isStarted(arg) && !hasCode(arg);
                default:
                    return true;
            }
        }

        int leastThatCan() {
            for (int hand = 0; hand < HANDS; hand++) {
                if (can(hand)) {
                    return hand;
                }
            }
            return NONE;
        }

        int ableBits() {
            int bits = 0;
            for (int hand = 0; hand < HANDS; hand++) {
                if (can(hand)) {
                    bits |= 1 << hand;
                }
            }
            return bits;
        }

        /** The hand, which can, goes: the code that it did as an act; NONE: it went by one. */
        int go(int hand) {
            if (hand < 0 || hand >= HANDS || !hasCode(hand)) {
                return NONE;
            }
            int code = hand * MOST_CODES + next[hand];
            int arg = script.arg[code];
            next[hand]++;
            switch (script.sort[code]) {
                case READ:
                    look(hand, code, cells[arg]);
                    break;
                case WRITE:
                    cells[arg] = script.kind[code] == MOVED ? moved[hand] : script.number[code];
                    moved[hand] = 0;
                    break;
                case TURN:
                    cells[arg] += script.number[code];
                    break;
                case TAKE:
                    holder[arg] = hand + 1;
                    break;
                case GIVE:
                    if (holder[arg] != hand + 1) {
                        return NONE;
                    }
                    holder[arg] = 0;
                    break;
                case SEND:
                    notes[arg]++;
                    break;
                case GET:
                    notes[arg]--;
                    break;
                case START:
                    if (isStarted(arg)) {
                        return NONE;
                    }
                    started |= 1 << arg;
                    break;
                default:
                    break;
            }
            return code;
        }

        private void look(int hand, int code, int seen) {
            int kind = script.kind[code];
            if (kind == MOVED) {
                moved[hand] = seen;
            }
            boolean fails = (kind == LESS && seen >= script.number[code]) || (kind == SAME && seen != script.number[code]);
            if (fails) {
                next[hand] += script.skip[code];
            }
        }

        void goTillAct(int hand) {
            for (int k = 0; k < MOST_CODES; k++) {
                if (!can(hand) || go(hand) >= 0) {
                    return;
                }
            }
        }

        void finish() {
            for (int k = 0; k <= MOST_ACTS; k++) {
                int hand = leastThatCan();
                if (hand < 0) {
                    return;
                }
                go(hand);
            }
        }

        int heldBy(int hand) {
            int bits = 0;
            for (int b = 0; b < BOLTS; b++) {
                if (holder[b] == hand + 1) {
                    bits |= 1 << b;
                }
            }
            return bits;
        }

        /** Hands that are started and have a code: where none can go, they wait for ever. */
        int stuckBits() {
            int bits = 0;
            for (int hand = 0; hand < HANDS; hand++) {
                if (isStarted(hand) && hasCode(hand)) {
                    bits |= 1 << hand;
                }
            }
            return bits;
        }

        /** Two ints have three hands (7 bits) and two bolts (3 bits) each, one has the notes (9 bits). */
        void packInto(int[] state) {
            for (int half = 0; half < 2; half++) {
                int bits = 0;
                for (int k = 0; k < 3; k++) {
                    int hand = half * 3 + k;
                    bits |= (next[hand] | ((started >> hand) & 1) << 6) << (7 * k);
                }
                state[half] = bits | holder[half * 2] << 21 | holder[half * 2 + 1] << 24;
            }
            state[2] = notes[0] | notes[1] << 9 | notes[2] << 18;
            System.arraycopy(cells, 0, state, CELLS_FROM, CELLS);
            System.arraycopy(moved, 0, state, MOVED_FROM, HANDS);
        }

        void unpack(int[] state) {
            started = 0;
            for (int half = 0; half < 2; half++) {
                int bits = state[half];
                for (int k = 0; k < 3; k++) {
                    int hand = half * 3 + k;
                    next[hand] = (bits >> (7 * k)) & 63;
                    started |= ((bits >> (7 * k + 6)) & 1) << hand;
                }
                holder[half * 2] = (bits >> 21) & 7;
                holder[half * 2 + 1] = (bits >> 24) & 7;
            }
            for (int k = 0; k < NOTES; k++) {
                notes[k] = (state[2] >> (9 * k)) & 511;
            }
            System.arraycopy(state, CELLS_FROM, cells, 0, CELLS);
            System.arraycopy(state, MOVED_FROM, moved, 0, HANDS);
        }
    }

    /** The ACTS of a RUN, and how it ended. */
    private static final class Log {
        int n;
        final int[] hand = new int[MOST_ACTS];
        final int[] sort = new int[MOST_ACTS];
        final int[] arg = new int[MOST_ACTS];
        final int[] value = new int[MOST_ACTS];
        final int[] place = new int[MOST_ACTS];
        final int[] ahead = new int[MOST_ACTS];
        final int[] bolts = new int[MOST_ACTS];
        final int[] cells = new int[CELLS];
        int stuck;
        boolean joined;
        /** Of each hand, while a RUN is made: its acts, its gates, those that are open. */
        private final int[] done = new int[HANDS];
        private final int[] entered = new int[HANDS];
        private final int[] openCount = new int[HANDS];
        private final int[] openGate = new int[HANDS * MOST_WITHIN];

        void clear() {
            n = 0;
            Arrays.fill(cells, 0);
            stuck = 0;
            joined = false;
            Arrays.fill(done, 0);
            Arrays.fill(entered, 0);
            Arrays.fill(openCount, 0);
        }

        void copyFrom(Log from) {
            n = from.n;
            System.arraycopy(from.hand, 0, hand, 0, MOST_ACTS);
            System.arraycopy(from.sort, 0, sort, 0, MOST_ACTS);
            System.arraycopy(from.arg, 0, arg, 0, MOST_ACTS);
            System.arraycopy(from.value, 0, value, 0, MOST_ACTS);
            System.arraycopy(from.place, 0, place, 0, MOST_ACTS);
            System.arraycopy(from.ahead, 0, ahead, 0, MOST_ACTS);
            System.arraycopy(from.bolts, 0, bolts, 0, MOST_ACTS);
            System.arraycopy(from.cells, 0, cells, 0, CELLS);
            stuck = from.stuck;
            joined = from.joined;
        }

        void add(int h, Script script, int code, Machine machine) {
            if (n >= MOST_ACTS || h < 0 || h >= HANDS || code < 0 || code >= MOST_ACTS) {
                return;
            }
            hand[n] = h;
            sort[n] = script.sort[code];
            arg[n] = script.arg[code];
            if (sort[n] == IN) {
                arg[n] = enterGate(h);
            } else if (sort[n] == OUT) {
                arg[n] = leaveGate(h);
            }
            value[n] = isTouch(n) ? machine.cells[arg[n]] : 0;
            place[n] = script.place[code];
            ahead[n] = done[h];
            bolts[n] = machine.heldBy(h);
            done[h]++;
            n++;
        }

        private int enterGate(int h) {
            int gate = entered[h];
            entered[h]++;
            if (openCount[h] < MOST_WITHIN) {
                openGate[h * MOST_WITHIN + openCount[h]] = gate;
                openCount[h]++;
            }
            return gate;
        }

        private int leaveGate(int h) {
            if (openCount[h] < 1) {
                return 0;
            }
            openCount[h]--;
            return openGate[h * MOST_WITHIN + openCount[h]];
        }

        void close(Machine machine) {
            System.arraycopy(machine.cells, 0, cells, 0, CELLS);
            stuck = machine.stuckBits();
        }

        boolean isTouch(int i) {
            return sort[i] <= TURN;
        }

        boolean isBoltAct(int i) {
            return sort[i] == TAKE || sort[i] == GIVE;
        }

        /** Two touches of one cell by two hands, not both reads. */
        boolean areRivals(int i, int j) {
            return isTouch(i) && isTouch(j) && arg[i] == arg[j] && hand[i] != hand[j]
                && (sort[i] != READ || sort[j] != READ);
        }
    }

    /** Which acts of a LOG have to do with which, told once for each LOG. NONE stands for no act. */
    private static final class Links {
        private static final int BOLTS_FROM = CELLS;
        private static final int SENDS_FROM = BOLTS_FROM + BOLTS;
        private static final int GETS_FROM = SENDS_FROM + NOTES;
        private static final int KEYS = GETS_FROM + NOTES;

        /** The act ahead of it of its hand; of its first one the start. */
        final int[] own = new int[MOST_ACTS];
        /** Of a take the give, of a get the send, of a wait the hand's last, of a turn the turn ahead. */
        final int[] cross = new int[MOST_ACTS];
        /** The touch of its cell, the act of its bolt, the send or the get of its note ahead; and behind. */
        final int[] previous = new int[MOST_ACTS];
        private final int[] following = new int[MOST_ACTS];
        /** Of a touch the write or turn that it saw. */
        final int[] saw = new int[MOST_ACTS];
        final int[] ofHand = new int[MOST_ACTS];
        final int[] total = new int[HANDS];
        final int[] startOf = new int[HANDS];
        private final int[] firstOf = new int[KEYS];
        private final int[] lastOf = new int[KEYS];
        private final int[] lastWrite = new int[CELLS];
        private final int[] lastTurn = new int[CELLS];
        /** Of a hand's first m acts, by cells: reads, writes and turns, ten bits each (five hands add up). */
        final int[] touches = new int[HANDS * (MOST_CODES + 1) * CELLS];
        /** How many acts of each hand stand ahead of an act. */
        final int[] passed = new int[MOST_ACTS * HANDS];
        int marksUsed;
        int cellsTouched;
        /** Of an act: the in of the outermost gate that it lies in, or itself; gates open behind it. */
        private final int[] node = new int[MOST_ACTS];
        private final int[] within = new int[MOST_ACTS];
        private final int[] reached = new int[MOST_ACTS];

        void build(Log log) {
            Arrays.fill(total, 0);
            Arrays.fill(startOf, NONE);
            Arrays.fill(firstOf, NONE);
            Arrays.fill(lastOf, NONE);
            Arrays.fill(lastWrite, NONE);
            Arrays.fill(lastTurn, NONE);
            Arrays.fill(touches, 0);
            marksUsed = 0;
            cellsTouched = 0;
            for (int j = 0; j < log.n; j++) {
                linkOwn(log, j);
                linkPrevious(log, j);
                linkCross(log, j);
                linkNode(log, j);
                total[log.hand[j]]++;
            }
        }

        private void linkOwn(Log log, int j) {
            int h = log.hand[j];
            int m = total[h];
            own[j] = m > 0 ? ofHand[h * MOST_CODES + m - 1] : startOf[h];
            ofHand[h * MOST_CODES + m] = j;
            System.arraycopy(total, 0, passed, j * HANDS, HANDS);
            int row = (h * (MOST_CODES + 1) + m) * CELLS;
            System.arraycopy(touches, row, touches, row + CELLS, CELLS);
            if (log.isTouch(j)) {
                touches[row + CELLS + log.arg[j]] += 1 << (10 * log.sort[j]);
                cellsTouched |= 1 << log.arg[j];
            }
            if (log.sort[j] == START) {
                startOf[log.arg[j]] = j;
            }
        }

        private void linkPrevious(Log log, int j) {
            previous[j] = NONE;
            following[j] = NONE;
            int key = keyOf(log.sort[j], log.arg[j]);
            if (key < 0) {
                return;
            }
            int last = lastOf[key];
            previous[j] = last;
            if (last >= 0) {
                following[last] = j;
            } else {
                firstOf[key] = j;
            }
            lastOf[key] = j;
        }

        private static int keyOf(int sort, int arg) {
            switch (sort) {
                case READ:
                case WRITE:
                case TURN:
                    return arg;
                case TAKE:
                case GIVE:
                    return BOLTS_FROM + arg;
                case SEND:
                    return SENDS_FROM + arg;
                case GET:
                    return GETS_FROM + arg;
                default:
                    return NONE;
            }
        }

        private void linkCross(Log log, int j) {
            int arg = log.arg[j];
            cross[j] = NONE;
            saw[j] = log.isTouch(j) ? lastWrite[arg] : NONE;
            switch (log.sort[j]) {
                case WRITE:
                    lastWrite[arg] = j;
                    break;
                case TURN:
                    cross[j] = lastTurn[arg];
                    lastTurn[arg] = j;
                    lastWrite[arg] = j;
                    break;
                case TAKE:
                    cross[j] = previous[j];
                    marksUsed |= 1 << arg;
                    break;
                case GET:
                    cross[j] = sendFor(j, arg);
                    marksUsed |= 1 << (BOLTS + arg);
                    break;
                case WAIT:
                    cross[j] = total[arg] > 0 ? ofHand[arg * MOST_CODES + total[arg] - 1] : NONE;
                    break;
                default:
                    break;
            }
        }

        /** Notes come out as they went in: behind the send that the get ahead took. */
        private int sendFor(int get, int note) {
            int ahead = previous[get];
            int taken = ahead >= 0 ? cross[ahead] : NONE;
            return taken >= 0 ? following[taken] : firstOf[SENDS_FROM + note];
        }

        private void linkNode(Log log, int j) {
            int ahead = log.ahead[j] > 0 ? own[j] : NONE;
            int open = ahead >= 0 ? within[ahead] : 0;
            node[j] = open > 0 ? node[ahead] : j;
            within[j] = open;
            if (log.sort[j] == IN) {
                within[j] = open + 1;
            } else if (log.sort[j] == OUT && open > 0) {
                within[j] = open - 1;
            }
        }

        /** Whether the gate, or the outermost one that it lies in, lies on a ring. */
        boolean isOnRing(Log log, int in) {
            if (in < 0 || in >= log.n) {
                return false;
            }
            int goal = node[in];
            Arrays.fill(reached, 0);
            reached[goal] = 1;
            for (int pass = 0; pass <= log.n; pass++) {
                boolean grew = false;
                for (int j = 0; j < log.n; j++) {
                    if (!leadsTo(log, j, goal)) {
                        continue;
                    }
                    if (node[j] == goal) {
                        return true;
                    }
                    grew = true;
                    reached[node[j]] = 1;
                }
                if (!grew) {
                    return false;
                }
            }
            return false;
        }

        /**
         * Whether an edge comes from a reached node to that of act j. The edges left out follow from those
         * looked at: any act's from the hand's act ahead, any touch's from the writes and reads between.
         */
        private boolean leadsTo(Log log, int j, int goal) {
            if (node[j] != goal && reached[node[j]] != 0) {
                return false;
            }
            if (isEdge(own[j], j) || isEdge(cross[j], j)) {
                return true;
            }
            if (log.isBoltAct(j)) {
                return isEdge(previous[j], j);
            }
            if (!log.isTouch(j)) {
                return false;
            }
            if (isEdge(saw[j], j)) {
                return true;
            }
            int i = log.sort[j] == READ ? NONE : previous[j];
            for (int k = 0; k < MOST_ACTS && i >= 0 && log.sort[i] == READ; k++) {
                if (isEdge(i, j)) {
                    return true;
                }
                i = previous[i];
            }
            return false;
        }

        private boolean isEdge(int i, int j) {
            return i >= 0 && node[i] != node[j] && reached[node[i]] != 0;
        }
    }

    /** Of each act, how many acts of each hand are BEFORE it or are it. */
    private static final class Clocks {
        private final int[] clock = new int[MOST_ACTS * HANDS];
        private final int[] steps = new int[MOST_ACTS];
        private int laws;
        private int marks;

        void fill(Log log, Links links, int byLaws, int byMarks, int guards) {
            laws = byLaws;
            marks = byMarks;
            for (int j = 0; j < log.n; j++) {
                int base = j * HANDS;
                int own = ownAhead(log, links, j);
                if (own >= 0) {
                    System.arraycopy(clock, own * HANDS, clock, base, HANDS);
                } else {
                    for (int h = 0; h < HANDS; h++) {
                        clock[base + h] = 0;
                    }
                }
                int cross = crossAhead(log, links, j);
                if (cross >= 0) {
                    takeIn(base, cross * HANDS);
                }
                boolean guarded = log.isTouch(j) && ((guards >> log.arg[j]) & 1) != 0;
                if (guarded && links.previous[j] >= 0) {
                    takeIn(base, links.previous[j] * HANDS);
                }
                clock[base + log.hand[j]] = log.ahead[j] + 1;
            }
        }

        private void takeIn(int base, int from) {
            for (int h = 0; h < HANDS; h++) {
                if (clock[from + h] > clock[base + h]) {
                    clock[base + h] = clock[from + h];
                }
            }
        }

        private boolean orders(int law) {
            return ((laws >> law) & 1) != 0;
        }

        private boolean isMarked(int mark) {
            return ((marks >> mark) & 1) != 0;
        }

        private int ownAhead(Log log, Links links, int j) {
            return log.ahead[j] > 0 || orders(LAW_STARTS) ? links.own[j] : NONE;
        }

        private int crossAhead(Log log, Links links, int j) {
            boolean stands = false;
            switch (log.sort[j]) {
                case TAKE:
                    stands = orders(LAW_BOLTS) && isMarked(log.arg[j]);
                    break;
                case GET:
                    stands = orders(LAW_NOTES) && isMarked(BOLTS + log.arg[j]);
                    break;
                case WAIT:
                    stands = orders(LAW_WAITS);
                    break;
                case TURN:
                    stands = orders(LAW_TURNS);
                    break;
                default:
                    break;
            }
            return stands ? links.cross[j] : NONE;
        }

        boolean isBefore(Log log, int i, int j) {
            return i != j && clock[j * HANDS + log.hand[i]] > log.ahead[i];
        }

        boolean isMeeting(Log log, int i, int j) {
            boolean lawful = orders(LAW_TURNS) && log.sort[i] == TURN && log.sort[j] == TURN;
            return log.areRivals(i, j) && !lawful && !isBefore(log, i, j);
        }

        /** MEETINGS whose act behind is j: of each hand those touches ahead of it that its clock has not. */
        int countBehind(Log log, Links links, int j) {
            if (!log.isTouch(j)) {
                return 0;
            }
            int open = 0;
            for (int h = 0; h < HANDS; h++) {
                int known = clock[j * HANDS + h];
                int passed = links.passed[j * HANDS + h];
                if (h != log.hand[j] && known < passed) {
                    int row = h * (MOST_CODES + 1);
                    open += links.touches[(row + passed) * CELLS + log.arg[j]]
                        - links.touches[(row + known) * CELLS + log.arg[j]];
                }
            }
            return countRivals(log.sort[j], open);
        }

        private int countRivals(int sort, int open) {
            int reads = open & 1023;
            int writes = (open >> 10) & 1023;
            int turns = (open >> 20) & 1023;
            if (sort == READ) {
                return writes + turns;
            }
            boolean lawful = sort == TURN && orders(LAW_TURNS);
            return reads + writes + (lawful ? 0 : turns);
        }

        int countAll(Log log, Links links, int limit) {
            int found = 0;
            for (int j = 0; j < log.n && found <= limit; j++) {
                found += countBehind(log, links, j);
            }
            return found;
        }

        /** The act ahead of the MEETING with j that has so many ahead of it. */
        int aheadOf(Log log, int j, int skip) {
            int left = skip;
            for (int i = 0; i < j; i++) {
                if (isMeeting(log, i, j)) {
                    if (left == 0) {
                        return i;
                    }
                    left--;
                }
            }
            return NONE;
        }

        /** The k-th act of the WAY from i to j; the clocks stand for the laws as they are. */
        int wayAt(Log log, Links links, int i, int j, int k) {
            Arrays.fill(steps, NONE);
            steps[i] = 0;
            for (int b = i + 1; b <= j; b++) {
                int nearest = nearest(ownAhead(log, links, b), crossAhead(log, links, b));
                steps[b] = nearest >= 0 ? steps[nearest] + 1 : NONE;
            }
            if (k < 0 || k > steps[j]) {
                return NONE;
            }
            int at = j;
            for (int left = steps[j] - k; left > 0 && at >= 0; left--) {
                at = nearest(ownAhead(log, links, at), crossAhead(log, links, at));
            }
            return at;
        }

        /** Of two acts the one with fewer steps to it, of as many the lesser act. */
        private int nearest(int one, int two) {
            int stepsOne = one >= 0 ? steps[one] : NONE;
            int stepsTwo = two >= 0 ? steps[two] : NONE;
            if (stepsOne < 0 || stepsTwo < 0) {
                return stepsOne >= 0 ? one : stepsTwo >= 0 ? two : NONE;
            }
            if (stepsOne != stepsTwo) {
                return stepsOne < stepsTwo ? one : two;
            }
            return Math.min(one, two);
        }
    }

    /** States met, each once, in the order in which they were met, each with the one that it came from. */
    private static final class Visited {
        static final int OLD = -1;
        static final int FULL = -2;
        private static final int TABLE = 8192;

        int n;
        private int width;
        private final int[] states = new int[MOST_STATES * Machine.ROOM];
        private final int[] parent = new int[MOST_STATES];
        private final int[] hand = new int[MOST_STATES];
        /** Numbers of states, from 1 on, by their hash; 0: none. */
        private final int[] table = new int[TABLE];

        void clear(int ints) {
            n = 0;
            width = Math.max(1, Math.min(ints, Machine.ROOM));
            Arrays.fill(table, 0);
        }

        /** Its number, if it is a new one; else OLD, or FULL. */
        int offer(int[] state, int from, int by) {
            int at = hashOf(state);
            for (int k = 0; k < TABLE && table[at] != 0; k++) {
                if (isSame(table[at] - 1, state)) {
                    return OLD;
                }
                at = (at + 1) & (TABLE - 1);
            }
            if (n >= MOST_STATES) {
                return FULL;
            }
            System.arraycopy(state, 0, states, n * width, width);
            parent[n] = from;
            hand[n] = by;
            n++;
            table[at] = n;
            return n - 1;
        }

        private int hashOf(int[] state) {
            int hash = 17;
            for (int k = 0; k < width; k++) {
                hash = (hash + state[k]) * 0x2C1B3C6D;
                hash ^= hash >>> 15;
            }
            return hash & (TABLE - 1);
        }

        private boolean isSame(int s, int[] state) {
            int base = s * width;
            for (int k = 0; k < width; k++) {
                if (states[base + k] != state[k]) {
                    return false;
                }
            }
            return true;
        }

        void load(int s, int[] state) {
            if (s >= 0 && s < n) {
                System.arraycopy(states, s * width, state, 0, width);
            }
        }

        int partOf(int s, int k) {
            return s >= 0 && s < n && k >= 0 && k < width ? states[s * width + k] : 0;
        }

        /** The hands that lead to a state, from the beginning on: how many. */
        int pathTo(int s, int[] into) {
            int steps = 0;
            int at = s;
            for (int k = 0; k < into.length && at > 0 && at < n; k++) {
                at = parent[at];
                steps++;
            }
            at = s;
            for (int k = steps - 1; k >= 0 && at > 0; k--) {
                into[k] = hand[at];
                at = parent[at];
            }
            return steps;
        }
    }

    /** Looks for an ORDER behind which two acts are next ones of their hands. */
    private static final class Orders {
        private static final int ROOM = 5;

        /** The ORDER that is shown: it outlives its log, as only another could() takes it away. */
        final int[] shownHand = new int[MOST_ACTS];
        int shownLength;
        /** Whether the ORDER that is shown and its two acts are of the log that stands. */
        boolean has;
        int one;
        int two;
        private final int[] done = new int[HANDS];
        private final int[] wrote = new int[CELLS];
        private final int[] state = new int[ROOM];

        int seek(Log log, Links links, Visited visited, int i, int j) {
            visited.clear(ROOM);
            Arrays.fill(done, 0);
            Arrays.fill(wrote, NONE);
            pack();
            visited.offer(state, NONE, NONE);
            if (isBehind(log, links, i, j)) {
                return show(visited, 0, i, j);
            }
            for (int s = 0; s < MOST_STATES && s < visited.n; s++) {
                visited.load(s, state);
                unpack();
                for (int h = 0; h < HANDS; h++) {
                    if (!mayGo(log, links, h)) {
                        continue;
                    }
                    goOn(log, links, h);
                    int met = visited.offer(state, s, h);
                    if (met == Visited.FULL) {
                        return TOO_MANY;
                    }
                    boolean does = met >= 0 && isBehind(log, links, i, j);
                    if (does) {
                        return show(visited, met, i, j);
                    }
                    visited.load(s, state);
                    unpack();
                }
            }
            return 0;
        }

        private int show(Visited visited, int s, int i, int j) {
            shownLength = visited.pathTo(s, shownHand);
            has = true;
            one = i;
            two = j;
            return 1;
        }

        /** Three hands in an int (ten bits), three cells in an int (ten bits). */
        private void pack() {
            state[0] = done[0] | done[1] << 10 | done[2] << 20;
            state[1] = done[3] | done[4] << 10 | done[5] << 20;
            state[2] = (wrote[0] + 1) | (wrote[1] + 1) << 10 | (wrote[2] + 1) << 20;
            state[3] = (wrote[3] + 1) | (wrote[4] + 1) << 10 | (wrote[5] + 1) << 20;
            state[4] = (wrote[6] + 1) | (wrote[7] + 1) << 10;
        }

        private void unpack() {
            for (int h = 0; h < HANDS; h++) {
                done[h] = (state[h / 3] >> (10 * (h % 3))) & 1023;
            }
            for (int c = 0; c < CELLS; c++) {
                wrote[c] = ((state[2 + c / 3] >> (10 * (c % 3))) & 1023) - 1;
            }
        }

        private void goOn(Log log, Links links, int h) {
            int act = links.ofHand[h * MOST_CODES + done[h]];
            done[h]++;
            if (log.sort[act] == WRITE || log.sort[act] == TURN) {
                wrote[log.arg[act]] = act;
            }
            pack();
        }

        private boolean isDone(Log log, int act) {
            return act < 0 || done[log.hand[act]] > log.ahead[act];
        }

        private boolean isStarted(Log log, Links links, int h) {
            return h == 0 || (links.startOf[h] >= 0 && isDone(log, links.startOf[h]));
        }

        private boolean isBehind(Log log, Links links, int i, int j) {
            int handOne = log.hand[i];
            int handTwo = log.hand[j];
            return done[handOne] == log.ahead[i] && done[handTwo] == log.ahead[j]
                && isStarted(log, links, handOne) && isStarted(log, links, handTwo);
        }

        private boolean mayGo(Log log, Links links, int h) {
            if (done[h] >= links.total[h] || !isStarted(log, links, h)) {
                return false;
            }
            int act = links.ofHand[h * MOST_CODES + done[h]];
            int arg = log.arg[act];
            switch (log.sort[act]) {
                case READ:
                case TURN:
                    return wrote[arg] == links.saw[act];
                case TAKE:
                    return isFree(log, links, arg);
                case SEND:
                    return isDone(log, links.previous[act]);
                case GET:
                    return isDone(log, links.previous[act]) && isDone(log, links.cross[act]);
                case WAIT:
                    return done[arg] >= links.total[arg];
                default:
                    return true;
            }
        }

        private boolean isFree(Log log, Links links, int bolt) {
            for (int h = 0; h < HANDS; h++) {
                int last = done[h] > 0 ? links.ofHand[h * MOST_CODES + done[h] - 1] : NONE;
                if (last >= 0 && ((log.bolts[last] >> bolt) & 1) != 0) {
                    return false;
                }
            }
            return true;
        }
    }

    /** All RUNS of a TEXT, by states. */
    private static final class AllRuns {
        /** Whether those of the TEXT were gone through, and what was found. */
        boolean gone;
        boolean spent;
        int states;
        int endCount;
        /** The ORDER of the latest waiting END that was told. */
        final int[] ledHand = new int[MOST_ACTS];
        int ledLength;
        private int waiting;
        private final int[] path = new int[MOST_ACTS];
        private int pathLength;
        private final int[] state = new int[Machine.ROOM];
        private final int[] endState = new int[MOST_STATES];
        private final int[] endStuck = new int[MOST_STATES];

        void explore(Script script, Machine machine, Visited visited) {
            gone = true;
            spent = false;
            endCount = 0;
            waiting = 0;
            pathLength = 0;
            visited.clear(Machine.ROOM);
            machine.begin(script);
            machine.packInto(state);
            visited.offer(state, NONE, NONE);
            for (int s = 0; s < MOST_STATES && s < visited.n && !spent; s++) {
                goOnFrom(s, machine, visited);
            }
            states = visited.n;
        }

        private void goOnFrom(int s, Machine machine, Visited visited) {
            visited.load(s, state);
            machine.unpack(state);
            int able = machine.ableBits();
            if (able == 0) {
                noteEnd(s, machine.stuckBits(), visited);
            }
            for (int h = 0; h < HANDS && !spent; h++) {
                if (((able >> h) & 1) == 0) {
                    continue;
                }
                visited.load(s, state);
                machine.unpack(state);
                machine.go(h);
                machine.packInto(state);
                spent = visited.offer(state, s, h) == Visited.FULL;
            }
        }

        private void noteEnd(int s, int stuck, Visited visited) {
            if (stuck != 0 && waiting == 0) {
                waiting = stuck;
                pathLength = visited.pathTo(s, path);
            }
            for (int e = 0; e < endCount; e++) {
                if (endStuck[e] == stuck && haveSameCells(visited, endState[e], s)) {
                    return;
                }
            }
            if (endCount < MOST_STATES) {
                endState[endCount] = s;
                endStuck[endCount] = stuck;
                endCount++;
            }
        }

        private static boolean haveSameCells(Visited visited, int s, int t) {
            for (int c = 0; c < CELLS; c++) {
                if (visited.partOf(s, Machine.CELLS_FROM + c) != visited.partOf(t, Machine.CELLS_FROM + c)) {
                    return false;
                }
            }
            return true;
        }

        int tellWaiting() {
            if (waiting != 0) {
                System.arraycopy(path, 0, ledHand, 0, MOST_ACTS);
                ledLength = pathLength;
            }
            return waiting;
        }
    }

    /** Pairs of places of MEETINGS, from many LOGS. */
    private static final class Book {
        int n;
        int logs;
        final int[] low = new int[MOST_PAIRS];
        final int[] high = new int[MOST_PAIRS];
        final int[] about = new int[MOST_PAIRS];
        final int[] times = new int[MOST_PAIRS];
        final int[] from = new int[MOST_PAIRS];
        final int[] till = new int[MOST_PAIRS];
        /** Which of them the LOG has that comes in. */
        private final int[] marked = new int[MOST_PAIRS];

        void copyFrom(Book book) {
            n = book.n;
            logs = book.logs;
            System.arraycopy(book.low, 0, low, 0, MOST_PAIRS);
            System.arraycopy(book.high, 0, high, 0, MOST_PAIRS);
            System.arraycopy(book.about, 0, about, 0, MOST_PAIRS);
            System.arraycopy(book.times, 0, times, 0, MOST_PAIRS);
            System.arraycopy(book.from, 0, from, 0, MOST_PAIRS);
            System.arraycopy(book.till, 0, till, 0, MOST_PAIRS);
        }

        /** How many pairs of the LOG are new; NONE, and none comes: there is no room. */
        int enter(Log log, Clocks law) {
            Arrays.fill(marked, 0);
            int all = n;
            for (int j = 0; j < log.n; j++) {
                for (int i = 0; i < j; i++) {
                    if (!law.isMeeting(log, i, j)) {
                        continue;
                    }
                    int k = put(log, i, j, all);
                    if (k < 0) {
                        return NONE;
                    }
                    all = Math.max(all, k + 1);
                }
            }
            int fresh = all - n;
            n = all;
            countLog(n - fresh);
            return fresh;
        }

        /** The number of the pair, among so many or behind them; NONE: there is no room. */
        private int put(Log log, int i, int j, int all) {
            int least = Math.min(log.place[i], log.place[j]);
            int most = Math.max(log.place[i], log.place[j]);
            int k = 0;
            while (k < all && (low[k] != least || high[k] != most || about[k] != log.arg[j])) {
                k++;
            }
            if (k >= MOST_PAIRS) {
                return NONE;
            }
            low[k] = least;
            high[k] = most;
            about[k] = log.arg[j];
            marked[k] = 1;
            return k;
        }

        private void countLog(int firstNew) {
            for (int k = 0; k < n; k++) {
                if (marked[k] == 0) {
                    continue;
                }
                if (k >= firstNew) {
                    times[k] = 0;
                    from[k] = logs;
                }
                times[k]++;
                till[k] = logs;
            }
            logs++;
        }
    }

    /** What an image keeps: the text, what was made of it, and the book. */
    private static final class Evening {
        final Script script = new Script();
        final Log log = new Log();
        final Book book = new Book();
        int laws = ALL_LAWS;
        int runCount;
        int idle;

        void copyFrom(Evening evening) {
            script.copyFrom(evening.script);
            log.copyFrom(evening.log);
            book.copyFrom(evening.book);
            laws = evening.laws;
            runCount = evening.runCount;
            idle = evening.idle;
        }
    }
}
