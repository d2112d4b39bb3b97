/** Promises 6 to 10 and Terms II: each boundary that is named has a test of its own. */
public final class EdgesOfRunTest {
    private static final int[] FAR = {Integer.MIN_VALUE, -1000, -2, -1, 1000, Integer.MAX_VALUE};
    private static final String SIXTY = " { times 6 { times 9 { turn a 999; } turn a 999; } }";
    private static final String FULL = "hand 0 { start 1; start 2; start 3; start 4; start 5; times 5 { times 9 { turn a 999; } turn a 999; turn a 999; } } hand 1"
        + SIXTY + " hand 2" + SIXTY + " hand 3" + SIXTY + " hand 4" + SIXTY + " hand 5" + SIXTY;

    public static void main(String[] args) {
        noSuchSlot();
        slotThatHasNothing();
        rowOfNoNumbers();
        rowOfSixty();
        numbersThatAreNoHands();
        handsThatCannot();
        runOfNoText();
        runsWithoutRow();
        fullLog();
        noSuchAct();
        noSuchWhat();
        largestOfActs();
        allBoltsOfAnAct();
        manyGates();
        noSuchCell();
        eachCell();
        eachHandStuck();
        noneStuck();
        takeOfABolt();
        giveOfABolt();
        notesOneByOne();
        waitForAHand();
        startOfAHand();
        ifBounds();
        leftOut();
        boltsStayWithTheEnded();
        Due.close();
    }

    private static void act(OneCup x, int i, int... want) {
        for (int what = 0; what < want.length; what++) {
            Due.is("act " + i + " " + what, x.act(i, what), want[what]);
        }
    }

    // ---- 6, 7 ----

    private static void noSuchSlot() {
        OneCup x = Due.ran("hand 0 { read a; write a 1; }");
        Due.is("6: slot 4", x.run(4), -2);
        for (int slot : FAR) {
            Due.is("6: slot " + slot, x.run(slot), -2);
        }
        Due.is("6: log stays", x.status(1), 2);
        Due.is("6: no run", x.status(2), 1);
        Due.is("6: refusals", x.status(10), 1 + FAR.length);
    }

    private static void slotThatHasNothing() {
        OneCup x = Due.told("hand 0 { start 1; write a 1; } hand 1 { read a; }");
        Due.is("6: run", Due.run(x, 0, 9, 9), 3);
        Due.is("6: could", x.could(1, 2), 1);
        Due.is("6: join", x.join(), 1);
        for (int slot = 1; slot < 4; slot++) {
            Due.is("6: slot " + slot, x.run(slot), -6);
        }
        Due.is("6: log stays", x.status(1), 3);
        Due.is("6: its cells", x.cell(0), 1);
        Due.is("6: no run", x.status(2), 1);
        Due.is("6: numbers of the run", x.status(3), 2);
        Due.is("6: harm stays", x.harm(), 0);
        Due.is("6: this log came", x.join(), -1);
        Due.is("6: no refusal", x.status(10), 0);
        Due.is("6: below 0 numbers leave it with nothing", x.row(1, 0, -1), -3);
        Due.is("6: nothing", x.run(1), -6);
    }

    private static void rowOfNoNumbers() {
        OneCup x = Due.told("hand 0 { read a; }");
        Due.is("6: row", x.row(3, 0, 0), 0);
        Due.is("6: it has something", x.run(3), 1);
        Due.is("6: runs", x.status(2), 1);
        Due.is("6: numbers", x.status(3), 0);
    }

    private static void rowOfSixty() {
        OneCup x = Due.told("hand 0 { start 1; read a; } hand 1" + SIXTY);
        Due.is("6: row", x.row(2, 1, 60), 0);
        for (int k = 1; k < 60; k++) {
            x.write(2, k, 1);
        }
        Due.is("6: run", x.run(2), 62);
        act(x, 59, 1, 2, 0, 999 * 59);
        act(x, 60, 0, 0, 0, 999 * 59);
        act(x, 61, 1, 2, 0, 999 * 60);
        Due.is("6: all did something", x.status(3), 0);
    }

    private static void numbersThatAreNoHands() {
        OneCup x = Due.told("hand 0 { read a; } hand 5 { read b; }");
        long[] none = {6, 7, -1, 127, -128, 255, 256, 65536, 1L << 31, 1L << 32, -(1L << 32), (1L << 32) + 5, Long.MAX_VALUE, Long.MIN_VALUE};
        Due.is("6: run", Due.run(x, none), 1);
        Due.is("6: did nothing", x.status(3), none.length);
        Due.is("6: width 0 makes hands of some", x.row(0, 0, 2), 0);
        x.write(0, 0, 256);
        x.write(0, 1, (1L << 32) + 5);
        Due.is("6: run", x.run(0), 1);
        Due.is("6: hand 5 is not started", x.status(3), 1);
    }

    private static void handsThatCannot() {
        // not started; not told; no codes left; a bolt, a note, a hand that it waits for
        OneCup x = Due.told("hand 0 { start 1; start 4; take p; get x; wait 1; } hand 1 { take p; } hand 2 { read a; }");
        Due.is("6: run", Due.run(x, 1, 2, 3, 4, 5, 0, 2, 1 + 2, 0, 4, 0, 1, 0, 0), 3);
        Due.is("6: did nothing", x.status(3), 11);
        OneCup y = Due.told("hand 0 { read a; }");
        Due.is("6: run", Due.run(y, 0, 0, 0), 1);
        Due.is("6: none left", y.status(3), 2);
    }

    private static void runOfNoText() {
        OneCup x = new OneCup();
        Due.is("6: run", Due.run(x, 0, 1, 5), 0);
        Due.is("6: did nothing", x.status(3), 3);
        Due.is("7: runs", x.runs(), 0);
        Due.is("7: no numbers", x.status(3), 0);
        Due.is("6: both are runs", x.status(2), 2);
        Due.is("6: without hand 0", Due.ran("hand 1 { read a; } hand 5 { read b; }").status(1), 0);
    }

    private static void runsWithoutRow() {
        OneCup x = Due.told("hand 0 { start 1; read a; } hand 1 { read b; }");
        Due.is("7: a row that there is", Due.run(x, 0, 1, 9), 3);
        act(x, 1, 1);
        Due.is("7: runs", x.runs(), 3);
        act(x, 1, 0);
        Due.is("7: no numbers", x.status(3), 0);
        Due.is("7: counted", x.status(2), 2);
        Due.is("7: of a log that came", x.join() + x.join(), -1);
        Due.is("7: a new log", x.runs(), 3);
        Due.is("7: comes anew", x.join(), 0);
    }

    private static void fullLog() {
        OneCup x = Due.told(FULL);
        Due.is("7: all that there can be", x.runs(), 360);
        act(x, 359, 5, 2, 0, 999 * 355);
        Due.is("8: none behind", x.act(360, 0), Due.NOTHING);
        Due.is("9: cell", x.cell(0), 999 * 355);
        Due.is("14: meets while turns order", x.meets(), 0);
        Due.is("17: small", x.small(40), 0);
        x.law(4, false);
        int pairs = 10 * 60 * 60 + 5 * 60 * 55;
        Due.is("14: meets", x.meets(), pairs);
        Due.is("15: the last", x.meet(pairs - 1, 1), 359);
        Due.is("15: none behind", x.meet(pairs, 1), Due.NOTHING);
        Due.is("22: habit", x.habit(), pairs);
        Due.is("29: mend", x.mend(), 1);
        Due.is("12: before", x.before(4, 359), 1);
        // to the last one: its start, and its sixty
        Due.is("13: way", x.way(0, 359, 64), 359);
        Due.is("13: none behind", x.way(0, 359, 65), -1);
        Due.is("18: could", x.could(5, 60), 1);
        Due.is("24: ends", x.ends(), -3);
    }

    // ---- 8 ----

    private static void noSuchAct() {
        OneCup x = Due.ran("hand 0 { read a; read b; }");
        Due.is("8: the first", x.act(0, 2), 0);
        Due.is("8: the last", x.act(1, 2), 1);
        for (int what = 0; what < 7; what++) {
            Due.is("8: one behind", x.act(2, what), Due.NOTHING);
            for (int i : FAR) {
                Due.is("8: act " + i, x.act(i, what), Due.NOTHING);
            }
        }
        Due.is("8: no refusal told by -2", x.status(10), 0);
        OneCup y = Due.told("hand 0 { read a; }");
        Due.is("8: no run yet", y.act(0, 0), Due.NOTHING);
    }

    private static void noSuchWhat() {
        OneCup x = Due.ran("hand 0 { read a; }");
        Due.is("8: what 6", x.act(0, 6), 0);
        Due.is("8: what 7", x.act(0, 7), Due.NOTHING);
        for (int what : FAR) {
            Due.is("8: what " + what, x.act(0, what), Due.NOTHING);
        }
    }

    private static void largestOfActs() {
        OneCup x = Due.told("hand 0 { start 5; } hand 5" + SIXTY.replace("turn a 999", "turn h 999"));
        Due.is("8: acts", x.runs(), 61);
        act(x, 60, 5, 2, 7, 999 * 60, 63, 59, 0);
        StringBuilder s = new StringBuilder();
        while (s.length() < 882) {
            s.append(' ');
        }
        OneCup y = Due.ran(s + "hand 0{wait 0;}   ");
        Due.is("8: a wait for itself is none", y.status(1), 0);
        OneCup z = Due.ran(s + "hand 0{start 5;}");
        act(z, 0, 0, 7, 5, 0, 889, 0, 0);
    }

    private static void allBoltsOfAnAct() {
        OneCup x = Due.ran("hand 0 { take s; take q; take p; take r; read a; give q; give q; give s; give r; give p; read a; }");
        int[] due = {8, 10, 11, 15, 15, 13, 5, 1, 0, 0};
        for (int i = 0; i < due.length; i++) {
            Due.is("8: bolts behind " + i, x.act(i, 6), due[i]);
        }
        Due.is("8: a give of none is no act", x.status(1), due.length);
    }

    private static void manyGates() {
        OneCup x = Due.ran("hand 0 { start 5; times 9 { times 3 { gate { } } } } hand 5 { gate { gate { gate { gate { } } } } }");
        act(x, 1, 0, 9, 0);
        act(x, 53, 0, 9, 26);
        act(x, 54, 0, 10, 26);
        // of its own hand, from 0 on, the in and its own out
        act(x, 55, 5, 9, 0);
        act(x, 58, 5, 9, 3);
        act(x, 59, 5, 10, 3);
        act(x, 62, 5, 10, 0);
        Due.is("30: gates", x.gates(), 31);
        Due.is("8: of a new run from 0 on", x.runs(), 63);
        act(x, 1, 0, 9, 0);
        act(x, 55, 5, 9, 0);
    }

    // ---- 9, 10 ----

    private static void noSuchCell() {
        OneCup x = Due.ran("hand 0 { write a 1; write h 8; }");
        Due.is("9: a", x.cell(0), 1);
        Due.is("9: h", x.cell(7), 8);
        Due.is("9: cell 8", x.cell(8), Due.NOTHING);
        for (int c : FAR) {
            Due.is("9: cell " + c, x.cell(c), Due.NOTHING);
        }
        Due.is("9: no refusal told by -2", x.status(10), 0);
    }

    private static void eachCell() {
        OneCup x = Due.ran("hand 0 { write a 11; write b 12; write c 13; write d 14; write e 15; write f 16; write g 17; write h 18; }");
        for (int c = 0; c < 8; c++) {
            Due.is("9: cell", x.cell(c), 11 + c);
            act(x, c, 0, 1, c, 11 + c);
        }
        Due.is("9: another run", x.runs(), 8);
        Due.is("9: from 0 on", x.act(1, 3), 12);
    }

    private static void eachHandStuck() {
        for (int h = 1; h < 6; h++) {
            Due.is("10: hand " + h, Due.ran("hand 0 { start " + h + "; } hand " + h + " { get x; }").stuck(), 1 << h);
        }
        OneCup x = Due.ran("hand 0 { start 1; start 2; start 3; start 4; start 5; get x; } hand 1 { get x; } hand 2 { get y; } hand 3 { get z; }"
            + " hand 4 { wait 4; } hand 5 { wait 0; }");
        Due.is("10: all", x.stuck(), 63);
        Due.is("25: all", x.waits(), 63);
    }

    private static void noneStuck() {
        Due.is("10: without a run", Due.told("hand 0 { get x; }").stuck(), 0);
        Due.is("10: no codes left", Due.ran("hand 0 { take p; take q; }").stuck(), 0);
        Due.is("10: not started", Due.ran("hand 1 { get x; }").stuck(), 0);
        Due.is("10: started, not told", Due.ran("hand 0 { start 1; }").stuck(), 0);
    }

    // ---- Terms II ----

    private static void takeOfABolt() {
        OneCup x = Due.ran("hand 0 { take p; give p; take p; take q; take p; }");
        Due.is("II: not free though its own", x.status(1), 4);
        Due.is("II: waits", x.stuck(), 1);
    }

    private static void giveOfABolt() {
        OneCup x = Due.told("hand 0 { start 1; take p; read a; give p; give p; } hand 1 { give p; give q; read b; }");
        Due.is("II: run", Due.run(x, 0, 0, 1, 1), 5);
        Due.is("II: another's is not given away", x.act(2, 6), 1);
        act(x, 2, 0, 0, 0);
        act(x, 3, 0, 4, 0, 0, 34, 3, 0);
        act(x, 4, 1, 0, 1, 0, 77, 0, 0);
    }

    private static void notesOneByOne() {
        OneCup x = Due.told("hand 0 { start 1; send x; send x; send y; } hand 1 { get x; get x; get x; }");
        Due.is("II: run", Due.run(x, 0, 1, 0, 1, 1, 0, 1, 1), 6);
        Due.is("II: an empty note", x.status(3), 3);
        Due.is("II: waits", x.stuck(), 2);
        Due.is("II: as many as there can be", Due.ran("hand 0 { times 5 { times 6 { send z; } } times 5 { times 6 { get z; } } }").status(1), 60);
        Due.is("II: one more", Due.ran("hand 0 { times 5 { times 5 { send z; } } times 5 { times 5 { get z; } } get z; }").stuck(), 1);
        OneCup y = Due.ran("hand 0 { start 1; start 2; start 3; start 4; times 9 { times 6 { send x; } } start 5; } hand 1" + sends() + " hand 2" + sends()
            + " hand 3" + sends() + " hand 4" + sends() + " hand 5 { times 6 { times 9 { get x; } get x; } }");
        Due.is("II: 294 of them", y.status(1), 5 + 54 + 240 + 60);
        Due.is("II: none waits", y.stuck(), 0);
    }

    private static String sends() {
        return " { times 6 { times 9 { send x; } send x; } }";
    }

    private static void waitForAHand() {
        Due.is("II: itself", Due.ran("hand 0 { wait 0; }").stuck(), 1);
        Due.is("II: not started", Due.ran("hand 0 { wait 5; } hand 5 { }").stuck(), 1);
        Due.is("II: started, without codes", Due.ran("hand 0 { start 5; wait 5; } hand 5 { }").stuck(), 0);
        Due.is("II: started, not told", Due.ran("hand 0 { start 5; wait 5; }").stuck(), 0);
        Due.is("II: hand 0 without codes is started", Due.ran("hand 0 { start 1; } hand 1 { wait 0; read a; }").status(1), 3);
        OneCup x = Due.told("hand 0 { start 1; wait 1; } hand 1 { read a; give p; }");
        Due.is("II: run", Due.run(x, 0, 0, 1, 0, 1, 0), 3);
        Due.is("II: not while a code is left", x.status(3), 2);
    }

    private static void startOfAHand() {
        OneCup x = Due.ran("hand 0 { start 0; start 5; start 5; start 1; } hand 5 { start 5; start 0; start 1; read a; } hand 1 { read b; }");
        Due.is("II: acts", x.status(1), 4);
        act(x, 0, 0, 7, 5);
        act(x, 1, 0, 7, 1);
        act(x, 2, 1, 0, 1);
        act(x, 3, 5, 0, 0, 0, 83, 0);
        Due.is("II: one that has ended is started", Due.ran("hand 0 { start 1; wait 1; start 1; read a; } hand 1 { read b; }").status(1), 4);
    }

    private static void ifBounds() {
        OneCup x = Due.ran("hand 0 { if a < 0 { turn b 1; } if a < 1 { turn b 10; } if a = 0 { turn b 100; } write a 999;"
            + " if a < 999 { turn c 1; } if a = 999 { turn c 10; } turn a 1; if a = 999 { turn c 100; } if a < 999 { turn c 1; } }");
        Due.is("II: b", x.cell(1), 110);
        Due.is("II: c", x.cell(2), 10);
        Due.is("II: acts", x.status(1), 3 + 2 + 1 + 2 + 1 + 1 + 2);
    }

    private static void leftOut() {
        OneCup x = Due.ran("hand 0 { if a = 1 { gate { move b c; if a = 0 { start 1; } times 2 { take p; } } get x; } read h; if a = 5 { } } hand 1 { read g; }");
        Due.is("II: all within", x.status(1), 3);
        act(x, 1, 0, 0, 7);
        act(x, 2, 0, 0, 0);
        Due.is("II: at the end", Due.ran("hand 0 { if a = 1 { get x; } }").stuck(), 0);
        Due.is("II: none left out", Due.ran("hand 0 { if a = 0 { get x; } }").stuck(), 1);
        // those within the inner one alone
        OneCup y = Due.ran("hand 0 { times 2 { if a < 1 { if b = 1 { write c 1; } write a 1; } write b 1; } }");
        Due.is("II: acts", y.status(1), 3 + 1 + 1 + 1);
        Due.is("II: c", y.cell(2), 0);
    }

    private static void boltsStayWithTheEnded() {
        OneCup x = Due.ran("hand 0 { start 1; take p; } hand 1 { give p; take p; }");
        Due.is("II: acts", x.status(1), 2);
        Due.is("II: waits for ever", x.stuck(), 2);
        Due.is("II: a new run, all free", x.runs(), 2);
        Due.is("II: notes empty", Due.ran("hand 0 { send x; }").runs(), 1);
        OneCup y = Due.ran("hand 0 { get x; send x; send x; }");
        Due.is("II: nothing of another run", y.runs(), 0);
    }
}
