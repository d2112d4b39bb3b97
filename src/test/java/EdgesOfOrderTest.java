/** Promises 18 to 26 and Terms IV to VII: each boundary that is named has a test of its own. */
public final class EdgesOfOrderTest {
    private static final int[] FAR = {Integer.MIN_VALUE, -1000, -2, -1, 1000, Integer.MAX_VALUE};
    private static final String RACE = "hand 0 { start 1; write a 1; write b 1; } hand 1 { read b; read a; }";

    public static void main(String[] args) {
        couldOfNoAct();
        couldOfOneHand();
        couldAtTheBeginning();
        couldByTheThreeThousandth();
        couldNotInThreeThousand();
        shownFromEndToEnd();
        shownOfNone();
        shownByTheLatest();
        harmOfNone();
        harmEndsWithTheLog();
        harmOfEachCell();
        harmOfAll();
        harmAsFarAsTheyCan();
        takeWhileFree();
        waitOfAHandWithoutActs();
        readsOfNone();
        alwaysOfNoCell();
        alwaysWithoutAny();
        alwaysOfEachBolt();
        habitOfNone();
        habitByBoltsOfBoth();
        ringOfNone();
        ringOfEachPair();
        ringOfAll();
        endsOfNothing();
        endsInThreeThousand();
        endsUnlike();
        waitsOfNone();
        waitsAtTheBeginning();
        waitsOfTheFirst();
        ledFromEndToEnd();
        ledStays();
        statesOfTheLatest();
        Due.close();
    }

    /** Hand 0: so many reads, a start, so many reads; hand 1: so many. */
    private static String grid(int ahead, int one, int two) {
        return "hand 0 { " + "read a; ".repeat(ahead) + "start 1; " + "read a;".repeat(one) + " } hand 1 { " + "read a;".repeat(two) + " }";
    }

    // ---- 18 ----

    private static void couldOfNoAct() {
        OneCup x = Due.ran(RACE);
        Due.is("18: states", x.could(1, 3), 1);
        int states = x.status(7);
        Due.is("18: one behind", x.could(5, 0), -2);
        Due.is("18: one behind", x.could(0, 5), -2);
        for (int i : FAR) {
            Due.is("18: act " + i, x.could(i, 4), -2);
            Due.is("18: act " + i, x.could(0, i), -2);
        }
        Due.is("18: refusals", x.status(10), 2 + 2 * FAR.length);
        Due.is("18: nothing gone through", x.status(7), states);
        Due.is("18: the order stays", x.shown(0), 0);
        Due.is("18: its harm too", x.harm(), 0);
        Due.is("18: no log", new OneCup().could(0, 0), -2);
    }

    private static void couldOfOneHand() {
        OneCup x = Due.ran(RACE);
        Due.is("18: the first and the last of it", x.could(0, 2), -2);
        Due.is("18: itself", x.could(3, 3), -2);
        Due.is("18: hand 1's", x.could(4, 3), -2);
        Due.is("18: the last of one, the first of the other", x.could(2, 3), 1);
    }

    /** Hand 1's first act is next, but it is not started while the start is next too. */
    private static void couldAtTheBeginning() {
        OneCup x = Due.ran("hand 0 { start 1; } hand 1 { read a; }");
        Due.is("18: not started", x.could(0, 1), 0);
        Due.is("18: states", x.status(7), 3);
        OneCup y = Due.ran("hand 0 { start 1; start 2; read b; } hand 1 { read a; } hand 2 { read c; }");
        Due.is("18: hand 2 is not started", y.could(1, 4), 0);
        Due.is("18: both are", y.could(3, 4), 1);
        Due.is("18: behind both starts", y.shown(1), 0);
        Due.is("18: no more", y.shown(2), -1);
    }

    /** Rows of states (of 0's acts, of 1's): 1830 in the first sixty, and so on; within one, more of hand 0 first. */
    private static void couldByTheThreeThousandth() {
        OneCup x = Due.ran(grid(0, 59, 60));
        Due.is("18: acts", x.status(1), 120);
        Due.is("18: the 3000th does it", x.could(56, 60 + 29), 1);
        Due.is("18: states", x.status(7), 3000);
        Due.is("18: order", x.shown(84), 1);
        Due.is("18: order ends", x.shown(85), -1);
        Due.is("18: the 3001st would", x.could(55, 60 + 30), -3);
        Due.is("18: states", x.status(7), 3000);
        Due.is("18: the order stays", x.shown(84), 1);
        Due.is("18: the 2999th does it", x.could(57, 60 + 28), 1);
        Due.is("18: states", x.status(7), 2999);
    }

    private static void couldNotInThreeThousand() {
        // the start and ten ahead of it: 11 states, and 49 * 61
        OneCup x = Due.ran(grid(10, 48, 60));
        Due.is("18: acts", x.status(1), 119);
        Due.is("18: none of 3000", x.could(0, 60), 0);
        Due.is("18: states", x.status(7), 3000);
        OneCup y = Due.ran(grid(11, 48, 60));
        Due.is("18: acts", y.status(1), 120);
        Due.is("18: a 3001st", y.could(0, 60), -3);
        Due.is("18: states", y.status(7), 3000);
        Due.is("18: no order", y.shown(0), -1);
        Due.is("18: no harm", y.harm(), -1);
        Due.is("18: no refusal told by -2", y.status(10), 0);
    }

    // ---- 19 ----

    private static final String TWO_EACH = "hand 0 { start 1; write a 1; write b 1; } hand 1 { read c; read b; }";

    private static void shownFromEndToEnd() {
        OneCup x = Due.ran(TWO_EACH);
        Due.is("19: could", x.could(2, 4), 1);
        Due.is("19: the 0-th", x.shown(0), 0);
        Due.is("19: the 1-st", x.shown(1), 0);
        Due.is("19: the last", x.shown(2), 1);
        Due.is("19: one behind", x.shown(3), -1);
        for (int k : FAR) {
            Due.is("19: the " + k + "-th", x.shown(k), -1);
        }
        Due.is("19: no refusal told by -2", x.status(10), 0);
    }

    private static void shownOfNone() {
        OneCup x = Due.ran(RACE);
        Due.is("19: no could yet", x.shown(0), -1);
        Due.is("19: could not", x.could(0, 3), 0);
        Due.is("19: none told 1", x.shown(0), -1);
        Due.is("19: refused", x.could(0, 0), -2);
        Due.is("19: none told 1", x.shown(0), -1);
        // of two hands one is not hand 0, so there is always a start in it
        Due.is("19: could", x.could(1, 3), 1);
        Due.is("19: one start", x.shown(0), 0);
        Due.is("19: no more", x.shown(1), -1);
    }

    private static void shownByTheLatest() {
        OneCup x = Due.ran(TWO_EACH);
        Due.is("19: could", x.could(2, 4), 1);
        Due.is("19: could", x.could(1, 3), 1);
        Due.is("19: the shorter one", x.shown(1), -1);
        Due.is("19: could", x.could(3, 2), 1);
        Due.row("19: the latest", new int[] {x.shown(0), x.shown(1), x.shown(2)}, 0, 0, -1);
    }

    // ---- 20 ----

    private static void harmOfNone() {
        Due.is("20: new", new OneCup().harm(), -1);
        OneCup x = Due.ran(RACE);
        Due.is("20: no could", x.harm(), -1);
        Due.is("20: could not", x.could(0, 3), 0);
        Due.is("20: none told 1", x.harm(), -1);
        Due.is("20: refused", x.could(0, 9), -2);
        Due.is("20: none told 1", x.harm(), -1);
        Due.is("20: could", x.could(1, 3), 1);
        Due.is("20: none otherwise", x.harm(), 0);
    }

    private static void harmEndsWithTheLog() {
        OneCup x = Due.ran("hand 0 { start 1; write a 1; } hand 1 { write a 2; }");
        Due.is("20: keep", x.keep(0), 0);
        for (int by = 0; by < 4; by++) {
            Due.is("20: could", x.could(1, 2), 1);
            Due.is("20: harm", x.harm(), 1);
            Due.is("20: refused runs make no log", x.run(4) + x.run(2) + x.back(3) + x.back(2), -2 - 6 - 2 - 6);
            Due.is("20: a fault makes none", Due.text(x, "hand 0 { } }"), -4);
            Due.is("20: laws make none", x.law(0, true), 1);
            Due.is("20: harm still", x.harm(), 1);
            if (by == 0) {
                Due.is("20: runs", x.runs(), 3);
            } else if (by == 1) {
                Due.is("20: run", Due.run(x), 3);
            } else if (by == 2) {
                Due.is("20: back", x.back(0), 0);
            } else {
                Due.is("20: text", x.text(), 0);
            }
            Due.is("20: none of this log", x.harm(), -1);
        }
    }

    private static void harmOfEachCell() {
        for (int c = 0; c < 8; c++) {
            char name = (char) ('a' + c);
            OneCup x = Due.ran("hand 0 { start 1; write " + name + " 1; } hand 1 { write " + name + " 2; }");
            Due.is("20: could", x.could(1, 2), 1);
            Due.is("20: cell " + name, x.harm(), 1 << c);
            Due.is("20: could", x.could(2, 1), 1);
            Due.is("20: the other way round", x.harm(), 1 << c);
        }
    }

    private static void harmOfAll() {
        String all = "write a 2; write b 2; write c 2; write d 2; write e 2; write f 2; write g 2; write h 2; ";
        OneCup x = Due.ran("hand 0 { start 1; write h 1; } hand 1 { if h = 0 { " + all + "} }");
        Due.is("20: could", x.could(1, 2), 1);
        Due.is("20: all cells", x.harm(), 255);
        OneCup y = Due.ran("hand 0 { start 1; write h 1; } hand 1 { if h = 0 { " + all + "get x; } }");
        Due.is("20: could", y.could(1, 2), 1);
        Due.is("20: all cells and a hand", y.harm(), 511);
        // another hand waits, though as many
        OneCup z = Due.ran("hand 0 { start 1; write a 1; if a = 2 { get x; } } hand 1 { write a 2; if a = 1 { get x; } }");
        Due.is("20: could", z.could(1, 3), 1);
        Due.is("20: another hand waits", z.harm(), 257);
    }

    private static void harmAsFarAsTheyCan() {
        // behind 0's take hand 1 can't take; each write is done behind its take
        OneCup x = Due.ran("hand 0 { start 1; take p; write a 1; give p; } hand 1 { take p; write a 2; give p; }");
        Due.is("V: could", x.could(1, 4), 1);
        Due.is("V: a by the latter", x.harm(), 1);
        // hand 1 gives, which is no act, on its way to the write
        OneCup y = Due.ran("hand 0 { start 1; write a 1; } hand 1 { give p; give q; start 0; write a 2; give r; }");
        Due.is("V: could", y.could(2, 1), 1);
        Due.is("V: till it did an act", y.harm(), 1);
    }

    // ---- Terms IV ----

    private static void takeWhileFree() {
        OneCup x = Due.ran("hand 0 { start 1; take p; read a; give p; read b; } hand 1 { take p; read c; give p; read d; }");
        // 1 take, 2 read, 3 give, 4 read (0), 5 take, 6 read, 7 give, 8 read (1)
        int[][] due = {{1, 5, 1}, {1, 6, 1}, {1, 7, 1}, {1, 8, 1}, {2, 5, 1}, {2, 6, 0}, {2, 7, 0}, {2, 8, 1},
            {3, 5, 1}, {3, 6, 0}, {3, 7, 0}, {3, 8, 1}, {4, 5, 1}, {4, 6, 1}, {4, 7, 1}, {4, 8, 1}};
        for (int[] d : due) {
            Due.is("IV: " + d[0] + " and " + d[1], x.could(d[0], d[1]), d[2]);
            Due.is("IV: " + d[1] + " and " + d[0], x.could(d[1], d[0]), d[2]);
        }
    }

    private static void waitOfAHandWithoutActs() {
        OneCup x = Due.ran("hand 0 { start 1; start 2; wait 1; read a; } hand 2 { read b; }");
        Due.is("IV: nothing to be behind", x.could(3, 4), 1);
        OneCup y = Due.ran("hand 0 { start 1; start 2; wait 1; read a; } hand 1 { read c; } hand 2 { read b; }");
        // 2 read c (1), 3 wait, 4 read a (0), 5 read b (2)
        Due.is("IV: the wait may be next", y.could(3, 2), 1);
        Due.is("IV: behind the wait all are done", y.could(4, 2), 0);
        Due.is("IV: those of others need not", y.could(4, 5), 1);
    }

    private static void readsOfNone() {
        // the read of hand 1 saw none, so it is ahead of the write; both may be next
        OneCup x = Due.told("hand 0 { start 1; write a 0; read b; } hand 1 { read a; read c; }");
        Due.is("IV: run", Due.run(x, 0, 1, 1), 5);
        Due.is("IV: its next one behind the write", x.could(4, 1), 1);
        Due.is("IV: side by side", x.could(3, 1), 1);
        Due.is("IV: the read is next where its write was seen", x.could(4, 2), 1);
        // the same value is not the same write
        OneCup y = Due.ran("hand 0 { start 1; write a 0; write a 0; read b; } hand 1 { read a; read c; }");
        Due.is("IV: ahead of the second write it sees another", y.could(2, 5), 0);
        Due.is("IV: it may be next", y.could(2, 4), 1);
    }

    // ---- 21, 22, 23 ----

    private static void alwaysOfNoCell() {
        OneCup x = Due.ran("hand 0 { take q; write h 1; }");
        Due.is("21: h", x.always(7), 2);
        Due.is("21: cell 8", x.always(8), -2);
        for (int c : FAR) {
            Due.is("21: cell " + c, x.always(c), -2);
        }
        Due.is("21: refusals", x.status(10), 1 + FAR.length);
    }

    private static void alwaysWithoutAny() {
        Due.is("21: no log", new OneCup().always(0), 15);
        OneCup x = Due.ran("hand 0 { take p; write a 1; get x; write b 1; }");
        Due.is("21: not touched yet", x.always(1), 15);
        Due.is("21: touched", x.always(0), 1);
        Due.is("21: by no bolt", Due.ran("hand 0 { write a 1; take p; write a 1; }").always(0), 0);
    }

    private static void alwaysOfEachBolt() {
        OneCup x = Due.ran("hand 0 { take p; read a; take q; read b; take r; read c; take s; read d; read a; give p; read d; give q; read c; }");
        Due.row("21: bolts", new int[] {x.always(0), x.always(1), x.always(2), x.always(3)}, 1, 3, 4, 14);
    }

    private static void habitOfNone() {
        Due.is("22: no log", new OneCup().habit(), 0);
        Due.is("22: one hand", Due.ran("hand 0 { write a 1; write a 2; }").habit(), 0);
        Due.is("22: both read", Due.ran("hand 0 { start 1; read a; } hand 1 { read a; }").habit(), 0);
        Due.is("22: both turn, all the same", Due.ran("hand 0 { start 1; turn a 1; } hand 1 { turn a 1; }").habit(), 1);
        Due.is("22: two cells", Due.ran("hand 0 { start 1; write a 1; } hand 1 { write b 1; }").habit(), 0);
    }

    private static void habitByBoltsOfBoth() {
        String[] names = {"p", "q", "r", "s"};
        for (String one : names) {
            for (String two : names) {
                OneCup x = Due.told("hand 0 { start 1; take " + one + "; write a 1; give " + one + "; } hand 1 { take " + two + "; write a 2; give " + two + "; }");
                x.runs();
                Due.is("22: " + one + " and " + two, x.habit(), one.equals(two) ? 0 : 1);
            }
        }
        Due.is("22: one bolt of many", Due.ran("hand 0 { start 1; take p; take q; take r; write a 1; give r; } hand 1 { take r; take s; write a 1; }").habit(), 0);
    }

    private static void ringOfNone() {
        Due.is("23: no log", new OneCup().ring(), 0);
        Due.is("23: a bolt with itself", Due.ran("hand 0 { take p; take p; }").ring(), 0);
        Due.is("23: one alone", Due.ran("hand 0 { take p; give p; take p; give p; }").ring(), 0);
        Due.is("23: all in one order", Due.ran("hand 0 { take p; take q; take r; take s; give s; give r; take s; }").ring(), 0);
    }

    private static void ringOfEachPair() {
        String[] names = {"p", "q", "r", "s"};
        for (int a = 0; a < 4; a++) {
            for (int b = 0; b < 4; b++) {
                if (a == b) {
                    continue;
                }
                String one = names[a];
                String two = names[b];
                OneCup x = Due.ran("hand 0 { start 1; take " + one + "; take " + two + "; give " + one + "; give " + two + "; } hand 1 { take " + two
                    + "; take " + one + "; }");
                Due.is("23: " + one + " and " + two, x.ring(), 1 << a | 1 << b);
            }
        }
    }

    private static void ringOfAll() {
        // p q, q r, r s, s p: a ring of four, of two hands
        Due.is("23: four", Due.ran("hand 0 { start 1; take p; take q; give p; take r; give q; take s; give r; give s; } hand 1 { take s; take p; }").ring(), 15);
        // s leads to it, r comes of it
        Due.is("23: two of them", Due.ran("hand 0 { take s; take p; give s; take q; give p; take p; take r; }").ring(), 3);
        // while three are held
        Due.is("23: by the first held too", Due.ran("hand 0 { take p; take q; take r; give p; give q; take p; }").ring(), 7);
        Due.is("23: q only comes of it", Due.ran("hand 0 { take p; take q; give q; take r; give p; take p; }").ring(), 5);
    }

    // ---- 24, 25, 26 ----

    private static void endsOfNothing() {
        OneCup x = new OneCup();
        Due.is("24: no text", x.ends(), 1);
        Due.is("24: one state", x.status(7), 1);
        Due.is("24: hand 0 not told", Due.told("hand 1 { write a 1; }").ends(), 1);
        Due.is("24: waits at once", Due.told("hand 0 { get x; }").ends(), 1);
    }

    private static void endsInThreeThousand() {
        OneCup x = Due.told(grid(10, 48, 60));
        Due.is("24: 3000", x.ends(), 1);
        Due.is("24: states", x.status(7), 3000);
        Due.is("25: 3000", x.waits(), 0);
        Due.is("25: states", x.status(7), 3000);
        OneCup y = Due.told(grid(11, 48, 60));
        Due.is("24: a 3001st", y.ends(), -3);
        Due.is("24: states", y.status(7), 3000);
        Due.is("25: a 3001st", y.waits(), -3);
        Due.is("26: none led", y.led(0), -1);
        Due.is("24: no refusal told by -2", y.status(10), 0);
        // 10 and 47 * 61, and a get that none sends for: the last state waits, as the 2878th
        OneCup z = Due.told(grid(10, 46, 60).replace("} hand 1", "get x; } hand 1"));
        Due.is("25: the last state", z.waits(), 1);
        Due.is("25: states", z.status(7), 11 + 47 * 61);
        Due.is("26: the last one", z.led(116), 1);
        Due.is("26: one behind", z.led(117), -1);
    }

    /** Unlike in cells alone, in hands that wait alone, in neither though states are. */
    private static void endsUnlike() {
        for (char c = 'a'; c <= 'h'; c++) {
            Due.is("24: cell " + c, Due.told("hand 0 { start 1; write " + c + " 1; } hand 1 { write " + c + " 2; }").ends(), 2);
        }
        Due.is("24: in hands that wait", Due.told("hand 0 { start 1; take p; } hand 1 { take p; }").ends(), 2);
        Due.is("24: in who waits alone", Due.told("hand 0 { start 1; start 2; send x; } hand 1 { get x; take p; } hand 2 { get x; take q; }").ends(), 2);
        Due.is("24: in notes alone", Due.told("hand 0 { start 1; if a = 0 { send x; } } hand 1 { turn a 1; }").ends(), 1);
        Due.is("24: in codes left out alone", Due.told("hand 0 { start 1; if a = 0 { read b; read c; } } hand 1 { turn a 1; }").ends(), 1);
        Due.is("24: in the bolts left alone", Due.told("hand 0 { start 1; if a = 0 { take p; } } hand 1 { turn a 1; }").ends(), 1);
    }

    private static void waitsOfNone() {
        Due.is("25: no text", new OneCup().waits(), 0);
        OneCup x = Due.told(RACE);
        Due.is("25: none", x.waits(), 0);
        Due.is("26: none led", x.led(0), -1);
        Due.is("25: no run is made", x.status(2) + x.status(1), 0);
    }

    private static void waitsAtTheBeginning() {
        OneCup x = Due.told("hand 0 { get x; }");
        Due.is("25: hand 0", x.waits(), 1);
        Due.is("26: an order of none", x.led(0), -1);
        Due.is("25: states", x.status(7), 1);
        OneCup y = Due.told("hand 0 { start 5; } hand 5 { wait 5; }");
        Due.is("25: hand 5", y.waits(), 32);
        Due.is("26: one", y.led(0), 0);
        Due.is("26: no more", y.led(1), -1);
    }

    /** The first END that waits is told, though ends that don't come ahead of it. */
    private static void waitsOfTheFirst() {
        // 0 leaves a get out where 1 turned first
        OneCup x = Due.told("hand 0 { start 1; if a = 0 { read b; get x; } } hand 1 { turn a 1; }");
        Due.is("25: an end without waits is first", x.waits(), 1);
        Due.row("26: led", new int[] {x.led(0), x.led(1), x.led(2), x.led(3), x.led(4)}, 0, 0, 0, 1, -1);
        Due.is("24: ends", x.ends(), 2);
    }

    private static void ledFromEndToEnd() {
        OneCup x = Due.told("hand 0 { start 1; take p; take q; give q; give p; } hand 1 { take q; take p; give p; give q; }");
        Due.is("26: none yet", x.led(0), -1);
        Due.is("24: ends tells none", x.ends(), 2);
        Due.is("26: none yet", x.led(0), -1);
        Due.is("25: waits", x.waits(), 3);
        Due.row("26: led", new int[] {x.led(0), x.led(1), x.led(2)}, 0, 0, 1);
        Due.is("26: one behind", x.led(3), -1);
        for (int k : FAR) {
            Due.is("26: the " + k + "-th", x.led(k), -1);
        }
        Due.is("26: no refusal told by -2", x.status(10), 0);
    }

    private static void ledStays() {
        OneCup x = Due.told("hand 0 { start 1; get x; }");
        Due.is("25: waits", x.waits(), 1);
        Due.is("25: another text", Due.text(x, RACE), 2);
        Due.is("25: none", x.waits(), 0);
        Due.row("26: by the latest that told bits", new int[] {x.led(0), x.led(1)}, 0, -1);
        Due.is("25: too large a text", Due.text(x, grid(11, 48, 60)), 2);
        Due.is("25: spent", x.waits(), -3);
        Due.row("26: by the latest that told bits", new int[] {x.led(0), x.led(1)}, 0, -1);
        Due.is("25: another text", Due.text(x, "hand 0 { get y; }"), 1);
        Due.is("25: waits", x.waits(), 1);
        Due.is("26: an order of none", x.led(0), -1);
    }

    private static void statesOfTheLatest() {
        OneCup x = Due.ran("hand 0 { start 1; write a 1; } hand 1 { read a; }");
        Due.is("34: none yet", x.status(7), 0);
        Due.is("24: ends", x.ends(), 1);
        // beginning, start, either one, both by either: the cells are the same, the reads are no part
        Due.is("34: of ends", x.status(7), 5);
        Due.is("18: could", x.could(1, 2), 1);
        Due.is("34: of could", x.status(7), 2);
        Due.is("25: waits", x.waits(), 0);
        Due.is("34: of waits", x.status(7), 5);
        Due.is("18: refused", x.could(0, 1), -2);
        Due.is("34: of waits still", x.status(7), 5);
    }
}
