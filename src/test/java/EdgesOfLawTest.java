/** Promises 11 to 17 and Terms III: each boundary that is named has a test of its own. */
public final class EdgesOfLawTest {
    private static final int[] FAR = {Integer.MIN_VALUE, -1000, -2, -1, 1000, Integer.MAX_VALUE};

    public static void main(String[] args) {
        noSuchLaw();
        eachLaw();
        lawFromNowOn();
        beforeOfNoAct();
        beforeOfItself();
        beforeOfTheFirstAndLast();
        wayOfNoAct();
        wayFromEndToEnd();
        wayOfNone();
        wayByLeastActs();
        wayByTurns();
        noMeetings();
        whatMeets();
        meetOfNone();
        meetInOrder();
        firstOfNoCell();
        firstOfEachCell();
        smallBounds();
        smallJustForty();
        smallOfEachCell();
        nextTakeAlone();
        getOfItsSend();
        waitForAHandWithoutActs();
        startOfAHandWithoutActs();
        turnsOfOneCell();
        handsAreOrderedWithoutLaws();
        Due.close();
    }

    private static final String RACE = "hand 0 { start 1; write a 1; write h 1; } hand 1 { read h; read a; }";

    // ---- 11 ----

    private static void noSuchLaw() {
        OneCup x = new OneCup();
        Due.is("11: law 5", x.law(5, false), -2);
        Due.is("11: law 32", x.law(32, false), -2);
        for (int sort : FAR) {
            Due.is("11: law " + sort, x.law(sort, false), -2);
        }
        Due.is("11: laws", x.status(6), 31);
        for (int sort = 0; sort < 5; sort++) {
            x.law(sort, false);
        }
        Due.is("11: law 5", x.law(5, true), -2);
        Due.is("11: law -1", x.law(-1, true), -2);
        Due.is("11: laws", x.status(6), 0);
        Due.is("11: refusals", x.status(10), 4 + FAR.length);
    }

    private static void eachLaw() {
        OneCup x = new OneCup();
        int bits = 31;
        for (int sort = 0; sort < 5; sort++) {
            Due.is("11: did", x.law(sort, false), 1);
            bits &= ~(1 << sort);
            Due.is("11: bits", x.status(6), bits);
            Due.is("11: did not", x.law(sort, false), 0);
            Due.is("11: bits", x.status(6), bits);
        }
        for (int sort = 4; sort >= 0; sort--) {
            Due.is("11: did not", x.law(sort, true), 0);
            bits |= 1 << sort;
            Due.is("11: bits", x.status(6), bits);
            Due.is("11: did", x.law(sort, true), 1);
        }
        Due.is("11: bits", x.status(6), 31);
    }

    private static void lawFromNowOn() {
        OneCup x = Due.ran("hand 0 { write a 1; start 1; } hand 1 { read a; }");
        Due.is("11: before", x.before(0, 2), 1);
        Due.is("11: no starts", x.law(2, false), 1);
        Due.is("11: at once", x.before(0, 2), 0);
        Due.is("11: way", x.way(0, 2, 0), -1);
        Due.is("11: meets", x.meets(), 1);
        Due.is("11: first", x.first(0), 0);
        Due.is("11: small", x.small(1), 1);
        Due.is("11: may", x.may(127), 1);
        Due.is("11: mend", x.mend(), 1);
        Due.is("11: run", x.runs(), 3);
        Due.is("11: still", x.meets(), 1);
        Due.is("11: starts", x.law(2, true), 0);
        Due.is("11: at once", x.meets(), 0);
        Due.is("11: way", x.way(0, 2, 2), 2);
        Due.is("11: mend", x.mend(), 0);
        Due.is("11: log stays", x.status(1), 3);
        Due.is("11: no new run", x.status(2), 2);
    }

    // ---- 12 ----

    private static void beforeOfNoAct() {
        OneCup x = Due.ran(RACE);
        Due.is("12: one behind", x.before(5, 0), -2);
        Due.is("12: one behind", x.before(0, 5), -2);
        Due.is("12: neither", x.before(5, 5), -2);
        for (int i : FAR) {
            Due.is("12: act " + i, x.before(i, 0), -2);
            Due.is("12: act " + i, x.before(4, i), -2);
            Due.is("12: act " + i, x.before(i, i), -2);
        }
        Due.is("12: refusals", x.status(10), 3 + 3 * FAR.length);
        OneCup y = new OneCup();
        Due.is("12: empty log", y.before(0, 0), -2);
    }

    private static void beforeOfItself() {
        OneCup x = Due.ran(RACE);
        for (int i = 0; i < 5; i++) {
            Due.is("12: itself", x.before(i, i), 0);
        }
    }

    private static void beforeOfTheFirstAndLast() {
        OneCup x = Due.ran(RACE);
        Due.is("12: first and last", x.before(0, 4), 1);
        Due.is("12: last and first", x.before(4, 0), 0);
        Due.is("12: last but one and last", x.before(3, 4), 1);
        Due.is("12: of two hands", x.before(2, 3), 0);
        OneCup y = Due.ran("hand 0 { read a; }");
        Due.is("12: one act", y.before(0, 0), 0);
    }

    // ---- 13 ----

    private static void wayOfNoAct() {
        OneCup x = Due.ran(RACE);
        for (int k = -1; k < 3; k++) {
            Due.is("13: one behind", x.way(5, 0, k), -2);
            Due.is("13: one behind", x.way(0, 5, k), -2);
            Due.is("13: neither", x.way(-1, 5, k), -2);
        }
        for (int i : FAR) {
            Due.is("13: act " + i, x.way(i, 0, 0), -2);
            Due.is("13: act " + i, x.way(0, i, 0), -2);
        }
        Due.is("13: refusals", x.status(10), 12 + 2 * FAR.length);
    }

    private static void wayFromEndToEnd() {
        OneCup x = Due.ran("hand 0 { read a; read b; read c; }");
        Due.is("13: the 0-th", x.way(0, 2, 0), 0);
        Due.is("13: the 1-st", x.way(0, 2, 1), 1);
        Due.is("13: the last", x.way(0, 2, 2), 2);
        Due.is("13: one behind", x.way(0, 2, 3), -1);
        for (int k : FAR) {
            Due.is("13: the " + k + "-th", x.way(0, 2, k), -1);
        }
        Due.is("13: no refusal", x.status(10), 0);
    }

    private static void wayOfNone() {
        OneCup x = Due.ran(RACE);
        for (int k = -1; k < 3; k++) {
            Due.is("13: not before", x.way(1, 3, k), -1);
            Due.is("13: backwards", x.way(3, 0, k), -1);
            Due.is("13: itself", x.way(2, 2, k), -1);
        }
        Due.is("13: no refusal", x.status(10), 0);
    }

    private static void wayByLeastActs() {
        // 0 start 1, 1 send x, 2 send y, 3 read a, 4 send z (0), 5 get y, 6 get x, 7 get z (1)
        OneCup x = Due.told("hand 0 { start 1; send x; send y; read a; send z; } hand 1 { get y; get x; get z; }");
        Due.is("13: acts", x.runs(), 8);
        // to 6: by 1 (send x), or by 5 (get y); both are two steps from 0
        Due.row("13: the lesser one", way(x, 0, 6), 0, 1, 6);
        Due.row("13: the start is nearer", way(x, 0, 5), 0, 5);
        Due.row("13: fewer before lesser", way(x, 2, 7), 2, 3, 4, 7);
        Due.row("13: one step", way(x, 4, 7), 4, 7);
    }

    private static void wayByTurns() {
        OneCup x = Due.ran("hand 0 { turn a 1; read b; turn b 1; turn a 1; }");
        Due.row("13: a turn and the next one", way(x, 0, 3), 0, 3);
        Due.is("13: turns", x.law(4, false), 1);
        Due.row("13: by its hand", way(x, 0, 3), 0, 1, 2, 3);
        OneCup y = Due.ran("hand 0 { take p; give p; read a; take p; send x; read a; get x; }");
        Due.row("13: a give and the next take", way(y, 1, 3), 1, 3);
        Due.row("13: a send and its get", way(y, 0, 6), 0, 1, 3, 4, 6);
        Due.is("13: bolts", y.law(0, false), 1);
        Due.row("13: by its hand", way(y, 1, 3), 1, 2, 3);
    }

    private static int[] way(OneCup x, int i, int j) {
        int n = 0;
        while (n < 100 && x.way(i, j, n) >= 0) {
            n++;
        }
        int[] all = new int[n];
        for (int k = 0; k < n; k++) {
            all[k] = x.way(i, j, k);
        }
        return all;
    }

    // ---- 14, 15, 16 ----

    private static void noMeetings() {
        Due.is("14: no log", new OneCup().meets(), 0);
        Due.is("14: no run", Due.told(RACE).meets(), 0);
        Due.is("14: one hand", Due.ran("hand 0 { write a 1; read a; turn a 1; move a a; }").meets(), 0);
        Due.is("14: no touches", Due.ran("hand 0 { start 1; take p; } hand 1 { send x; gate { } }").meets(), 0);
    }

    private static void meetsOf(String one, String two, int due, int withoutTurns) {
        OneCup x = Due.ran("hand 0 { start 1; " + one + " } hand 1 { " + two + " }");
        Due.is("III: " + one + " and " + two, x.meets(), due);
        Due.is("III: of two hands", x.meet(0, 0) >= 0 && x.act(x.meet(0, 0), 0) == 0 ? 1 : 0, due > 0 ? 1 : 0);
        Due.is("III: the last is told", x.meet(due - 1, 1) >= 0 ? 1 : 0, due > 0 ? 1 : 0);
        x.law(4, false);
        Due.is("III: " + one + " and " + two + " without turns", x.meets(), withoutTurns);
    }

    private static void whatMeets() {
        meetsOf("read a;", "read a;", 0, 0);
        meetsOf("read a;", "write a 1;", 1, 1);
        meetsOf("read a;", "turn a 1;", 1, 1);
        meetsOf("write a 1;", "read a;", 1, 1);
        meetsOf("write a 1;", "write a 1;", 1, 1);
        meetsOf("write a 1;", "turn a 1;", 1, 1);
        meetsOf("turn a 1;", "read a;", 1, 1);
        meetsOf("turn a 1;", "write a 1;", 1, 1);
        meetsOf("turn a 1;", "turn a 1;", 0, 1);
        meetsOf("turn a 0;", "turn b 0;", 0, 0);
        meetsOf("if a = 5 { write b 1; }", "write a 5; write b 2;", 1, 1);
        meetsOf("move a b;", "move b a;", 2, 2);
    }

    private static void meetOfNone() {
        OneCup x = Due.ran(RACE);
        Due.is("15: two", x.meets(), 2);
        for (int what = 0; what < 5; what++) {
            Due.is("15: meeting 2", x.meet(2, what), Due.NOTHING);
            for (int k : FAR) {
                Due.is("15: meeting " + k, x.meet(k, what), Due.NOTHING);
            }
        }
        Due.is("15: what 4", x.meet(1, 4), 59);
        Due.is("15: what 5", x.meet(1, 5), Due.NOTHING);
        for (int what : FAR) {
            Due.is("15: what " + what, x.meet(1, what), Due.NOTHING);
        }
        Due.is("15: none", new OneCup().meet(0, 0), Due.NOTHING);
        Due.is("15: no refusal told by -2", x.status(10), 0);
    }

    /** By the act behind, then by that ahead. */
    private static void meetInOrder() {
        OneCup x = Due.told("hand 0 { start 1; start 2; write a 1; } hand 1 { write a 2; } hand 2 { read a; write a 3; }");
        Due.is("15: run", Due.run(x, 0, 0, 2, 1, 0, 2), 6);
        // 2 read (2), 3 write (1), 4 write (0), 5 write (2)
        int[][] due = {{2, 3}, {2, 4}, {3, 4}, {3, 5}, {4, 5}};
        Due.is("15: meets", x.meets(), due.length);
        for (int k = 0; k < due.length; k++) {
            Due.is("15: ahead", x.meet(k, 0), due[k][0]);
            Due.is("15: behind", x.meet(k, 1), due[k][1]);
        }
    }

    private static void firstOfNoCell() {
        OneCup x = Due.ran(RACE);
        Due.is("16: h", x.first(7), 0);
        Due.is("16: cell 8", x.first(8), -2);
        for (int c : FAR) {
            Due.is("16: cell " + c, x.first(c), -2);
        }
        Due.is("16: refusals", x.status(10), 1 + FAR.length);
        Due.is("16: none on b", x.first(1), -1);
        Due.is("16: no log", new OneCup().first(0), -1);
    }

    private static void firstOfEachCell() {
        StringBuilder s = new StringBuilder("hand 0 { start 1; ");
        for (char c = 'a'; c <= 'h'; c++) {
            s.append("write ").append(c).append(" 1; ");
        }
        s.append("} hand 1 { ");
        for (char c = 'h'; c >= 'a'; c--) {
            s.append("read ").append(c).append("; read ").append(c).append("; ");
        }
        OneCup x = Due.ran(s + "}");
        for (int c = 0; c < 8; c++) {
            Due.is("16: of two, the first", x.first(c), 2 * (7 - c));
        }
    }

    // ---- 17 ----

    private static void smallBounds() {
        OneCup x = Due.ran(RACE);
        Due.is("17: one", x.small(1), 2);
        Due.is("17: forty", x.small(40), 2);
        Due.is("17: none", x.small(0), -2);
        Due.is("17: 41", x.small(41), -2);
        for (int k : FAR) {
            Due.is("17: " + k, x.small(k), -2);
        }
        Due.is("17: refusals", x.status(10), 2 + FAR.length);
        Due.is("17: no log", new OneCup().small(1), 0);
    }

    private static void smallJustForty() {
        String reads = "times 3 { times 9 { read a; } } times 4 { times 3 { read a; } }";
        OneCup x = Due.ran("hand 0 { start 1; write a 1; " + reads + " } hand 1 { read a; }");
        Due.is("17: 39 between", x.status(1), 42);
        Due.is("17: the fortieth back", x.small(40), 1);
        Due.is("17: not of 39", x.small(39), 0);
        OneCup y = Due.ran("hand 0 { start 1; write a 1; read a; " + reads + " } hand 1 { read a; }");
        Due.is("17: 40 between", y.small(40), 0);
        Due.is("17: it is there", y.meets(), 1);
    }

    private static void smallOfEachCell() {
        OneCup x = Due.ran("hand 0 { start 1; write a 1; times 9 { write b 1; take p; give p; } } hand 1 { read a; }");
        Due.is("17: touches of another cell push none out", x.small(1), 1);
        // its own hand's touches do
        OneCup y = Due.ran("hand 0 { start 1; write a 1; } hand 1 { read a; read a; }");
        Due.is("17: its own read", y.small(1), 1);
        Due.is("17: two", y.small(2), 2);
    }

    // ---- Terms III ----

    private static void nextTakeAlone() {
        OneCup x = Due.told("hand 0 { start 1; start 2; take p; give p; read b; } hand 1 { take q; give q; take p; read c; } hand 2 { take q; read d; }");
        // 2 take p, 3 give p (0), 4 take q, 5 give q (1), 6 take q (2), 7 take p (1)
        Due.is("III: run", Due.run(x, 0, 0, 0, 0, 1, 1, 2, 1), 11);
        Due.is("III: a give and the next take", x.before(3, 7), 1);
        Due.is("III: of its bolt", x.before(3, 4), 0);
        Due.is("III: a give and the next take", x.before(5, 6), 1);
        Due.is("III: not of another bolt", x.before(3, 6), 0);
        OneCup y = Due.told("hand 0 { start 1; start 2; take p; give p; } hand 1 { take p; give p; } hand 2 { take p; give p; }");
        Due.is("III: run", Due.run(y, 0, 0, 0, 0, 1, 1, 2, 2), 8);
        Due.is("III: over the one between", y.before(3, 6), 1);
        Due.row("III: by its way", way(y, 3, 6), 3, 4, 5, 6);
    }

    private static void getOfItsSend() {
        OneCup x = Due.told("hand 0 { start 1; start 2; send x; } hand 1 { send x; send y; } hand 2 { get x; get y; get x; }");
        // 2 send x (1), 3 send x (0), 4 get x, 5 send y (1), 6 get y, 7 get x
        Due.is("III: run", Due.run(x, 0, 0, 1, 0, 2, 1, 2, 2), 8);
        Due.is("III: the first send", x.before(2, 4), 1);
        Due.is("III: not the second", x.before(3, 4), 0);
        Due.is("III: not yet", x.before(3, 6), 0);
        Due.is("III: the second", x.before(3, 7), 1);
        Due.is("III: of its note", x.before(5, 6), 1);
    }

    /** All acts of a hand that has none order nothing, not even its start. */
    private static void waitForAHandWithoutActs() {
        OneCup x = Due.told("hand 0 { start 2; read b; start 1; } hand 2 { wait 1; read c; }");
        Due.is("III: run", Due.run(x, 0, 0, 0, 2, 2), 5);
        Due.is("III: a start of a hand without acts", x.before(2, 3), 0);
        Due.is("III: its own start", x.before(0, 3), 1);
        OneCup y = Due.told("hand 0 { start 2; read b; start 1; } hand 1 { read d; read e; } hand 2 { wait 1; read c; }");
        Due.is("III: run", Due.run(y, 0, 0, 0, 1, 1, 2, 2), 7);
        Due.is("III: the first of them", y.before(3, 5), 1);
        Due.is("III: the last of them", y.before(4, 5), 1);
        Due.is("III: and so its start", y.before(2, 5), 1);
    }

    private static void startOfAHandWithoutActs() {
        OneCup x = Due.ran("hand 0 { start 1; read a; } hand 1 { give p; start 0; } hand 2 { read b; }");
        Due.is("III: acts", x.status(1), 2);
        Due.is("III: before", x.before(0, 1), 1);
        OneCup y = Due.ran("hand 0 { start 1; } hand 1 { give p; read b; read c; }");
        Due.is("III: its first act", y.before(0, 1), 1);
        Due.is("III: all its acts", y.before(0, 2), 1);
    }

    private static void turnsOfOneCell() {
        OneCup x = Due.told("hand 0 { start 1; turn a 1; read c; } hand 1 { turn b 1; turn a 1; turn a 1; }");
        Due.is("III: run", Due.run(x, 0, 0, 1, 1, 1), 6);
        Due.is("III: of another cell", x.before(1, 2), 0);
        Due.is("III: the next one", x.before(1, 3), 1);
        Due.is("III: and the next", x.before(1, 4), 1);
        Due.is("III: no turn", x.before(4, 5), 0);
    }

    private static void handsAreOrderedWithoutLaws() {
        OneCup x = Due.ran("hand 0 { start 1; write a 1; wait 1; } hand 1 { take p; give p; send x; turn a 1; }");
        for (int law = 0; law < 5; law++) {
            x.law(law, false);
        }
        for (int i = 0; i < 7; i++) {
            for (int j = 0; j < 7; j++) {
                Due.is("III: each of its own hand alone", x.before(i, j), i < j && x.act(i, 0) == x.act(j, 0) ? 1 : 0);
            }
        }
    }
}
