/** Promises 27 to 33 and Terms VIII to X: each boundary that is named has a test of its own. */
public final class EdgesOfMendTest {
    private static final int[] FAR = {Integer.MIN_VALUE, -1000, -2, -1, 1000, Integer.MAX_VALUE};
    private static final String RACE = "hand 0 { start 1; write a 1; write h 1; } hand 1 { read h; read a; }";
    private static final String[] BOLTS = {"p", "q", "r", "s"};
    private static final String[] NOTES = {"x", "y", "z"};

    public static void main(String[] args) {
        mayOfNoSet();
        mayOfEachMark();
        mayOfNoneAndAll();
        mayWithoutActs();
        leastOfNone();
        leastOfEachMark();
        leastBits();
        mendOfNone();
        mendOfEachCell();
        mendOfAll();
        mendLeastBits();
        guardsOrderReads();
        gatesOfNone();
        gatesWithoutAnOut();
        blinkOfNoGate();
        blinkOfOneAlone();
        blinkOfTheOneThatItLiesIn();
        gateWithNothingWithin();
        ringOfTwo();
        joinOfNone();
        joinOnce();
        joinJustHundred();
        joinOneTooMany();
        joinNoneComes();
        countsOnceByLog();
        pairsByPlacesAndCell();
        joinedOfNone();
        Due.close();
    }

    // ---- 27 ----

    private static void mayOfNoSet() {
        OneCup x = Due.ran(RACE);
        Due.is("27: 0", x.may(0), 2);
        Due.is("27: 127", x.may(127), 2);
        Due.is("27: 128", x.may(128), -2);
        for (int set : FAR) {
            Due.is("27: " + set, x.may(set), -2);
        }
        Due.is("27: refusals", x.status(10), 1 + FAR.length);
        Due.is("27: no log", new OneCup().may(127), 0);
    }

    private static String byBolt(String b) {
        return "hand 0 { start 1; take " + b + "; write a 1; give " + b + "; } hand 1 { take " + b + "; read a; give " + b + "; }";
    }

    private static String byNote(String k) {
        return "hand 0 { start 1; write a 1; send " + k + "; } hand 1 { get " + k + "; read a; }";
    }

    private static void mayOfEachMark() {
        for (int bit = 0; bit < 7; bit++) {
            OneCup x = Due.ran(bit < 4 ? byBolt(BOLTS[bit]) : byNote(NOTES[bit - 4]));
            Due.is("27: it alone", x.may(1 << bit), 0);
            Due.is("27: all but it", x.may(127 & ~(1 << bit)), 1);
            Due.is("27: by all", x.meets(), 0);
        }
    }

    private static void mayOfNoneAndAll() {
        OneCup x = Due.ran("hand 0 { start 1; take p; write a 1; give p; write b 1; send z; } hand 1 { take p; read a; get z; read b; }");
        Due.is("27: all", x.may(127), x.meets());
        Due.is("27: none", x.may(0), 2);
        Due.is("27: p", x.may(1), 1);
        Due.is("27: z", x.may(64), 1);
        Due.is("27: the log stays", x.meets(), 0);
        x.law(1, false);
        Due.is("27: by the laws as they are", x.may(127), 1);
        x.law(0, false);
        Due.is("27: by the laws as they are", x.may(127), 2);
    }

    /** A start orders what is behind an act that is none then; so does what is ahead of one. */
    private static void mayWithoutActs() {
        OneCup x = Due.ran("hand 0 { write a 1; send x; start 1; } hand 1 { get x; take p; read a; }");
        Due.is("VIII: behind those that are none", x.may(0), 0);
        OneCup y = Due.ran("hand 0 { start 1; wait 1; read a; } hand 1 { write a 1; take p; send x; give p; }");
        Due.is("VIII: ahead of those that are none", y.may(0), 0);
    }

    // ---- 28 ----

    private static void leastOfNone() {
        Due.is("28: no log", new OneCup().least(), 0);
        Due.is("28: nothing orders", Due.ran(RACE).least(), 0);
        Due.is("28: no bolts, no notes", Due.ran("hand 0 { write a 1; start 1; } hand 1 { read a; }").least(), 0);
    }

    private static void leastOfEachMark() {
        for (int bit = 0; bit < 7; bit++) {
            Due.is("28: mark " + bit, Due.ran(bit < 4 ? byBolt(BOLTS[bit]) : byNote(NOTES[bit - 4])).least(), 1 << bit);
        }
    }

    private static void leastBits() {
        for (int one = 0; one < 7; one++) {
            for (int two = one + 1; two < 7; two++) {
                StringBuilder first = new StringBuilder("hand 0 { start 1; ");
                StringBuilder last = new StringBuilder("hand 1 { ");
                first.append(one < 4 ? "take " + BOLTS[one] + "; " : "").append(two < 4 ? "take " + BOLTS[two] + "; " : "").append("write a 1; ");
                for (int mark : new int[] {one, two}) {
                    first.append(mark < 4 ? "give " + BOLTS[mark] + "; " : "send " + NOTES[mark - 4] + "; ");
                    last.append(mark < 4 ? "take " + BOLTS[mark] + "; " : "get " + NOTES[mark - 4] + "; ");
                }
                OneCup x = Due.ran(first + "} " + last + "read a; }");
                Due.is("28: of " + one + " and " + two + " the lesser", x.least(), 1 << one);
                Due.is("28: the other would do", x.may(1 << two), 0);
            }
        }
    }

    // ---- 29 ----

    private static void mendOfNone() {
        Due.is("29: no log", new OneCup().mend(), 0);
        Due.is("29: no meetings", Due.ran(byNote("x")).mend(), 0);
        Due.is("29: reads alone", Due.ran("hand 0 { start 1; read a; } hand 1 { read a; }").mend(), 0);
    }

    private static void mendOfEachCell() {
        for (int c = 0; c < 8; c++) {
            char name = (char) ('a' + c);
            Due.is("29: cell " + name, Due.ran("hand 0 { start 1; write " + name + " 1; } hand 1 { write " + name + " 1; }").mend(), 1 << c);
        }
    }

    private static void mendOfAll() {
        String all = "write a 1; write b 1; write c 1; write d 1; write e 1; write f 1; write g 1; write h 1; }";
        OneCup x = Due.ran("hand 0 { start 1; " + all + " hand 1 { " + all);
        Due.is("29: each orders itself alone", x.mend(), 255);
        OneCup y = Due.ran("hand 0 { start 1; " + all + " hand 1 { read h; " + all);
        Due.is("29: the last of one and the first of the other order all", y.mend(), 128);
        x.law(2, false);
        Due.is("29: without starts", x.mend(), 255);
    }

    private static void mendLeastBits() {
        // b guarded orders c as well, c guarded orders b as well: either is enough
        OneCup x = Due.ran("hand 0 { start 1; write c 1; read b; read c; } hand 1 { read b; read c; write b 1; }");
        Due.is("29: meets", x.meets(), 2);
        Due.is("29: the lesser", x.mend(), 2);
        // a and b are touched both last by 0 and both first by 1
        OneCup y = Due.ran("hand 0 { start 1; write a 1; read b; write b 1; read a; } hand 1 { read b; read a; write b 1; write a 1; }");
        Due.is("29: neither alone", y.mend(), 3);
        OneCup z = Due.ran("hand 0 { start 1; write c 1; read a; read b; } hand 1 { write b 1; write a 1; read c; }");
        // by b: read b, write b; so c, but a: read a is ahead of read b and write a behind write b
        Due.is("29: b alone", z.mend(), 2);
    }

    /** A guarded cell orders each touch and the next one, reads too. */
    private static void guardsOrderReads() {
        OneCup x = Due.ran("hand 0 { start 1; write a 1; write b 1; read h; } hand 1 { read h; write a 2; write b 2; }");
        Due.is("VIII: by the reads of h", x.mend(), 128);
    }

    // ---- 30, 31 ----

    private static void gatesOfNone() {
        Due.is("30: no log", new OneCup().gates(), 0);
        Due.is("30: no run", Due.told("hand 0 { gate { } }").gates(), 0);
        Due.is("30: left out", Due.ran("hand 0 { if a = 1 { gate { } } }").gates(), 0);
        Due.is("30: not started", Due.ran("hand 1 { gate { } }").gates(), 0);
    }

    private static void gatesWithoutAnOut() {
        OneCup x = Due.ran("hand 0 { gate { } gate { gate { get x; } } gate { } }");
        Due.is("30: those in alone", x.gates(), 3);
        Due.is("30: acts", x.status(1), 4);
        for (int g = 0; g < 3; g++) {
            Due.is("31: one blink", x.blink(g), 1);
        }
        Due.is("31: none such", x.blink(3), -1);
    }

    private static void blinkOfNoGate() {
        OneCup x = Due.ran("hand 0 { gate { read a; } }");
        Due.is("31: the first", x.blink(0), 1);
        Due.is("31: one behind", x.blink(1), -1);
        for (int g : FAR) {
            Due.is("31: gate " + g, x.blink(g), -1);
        }
        Due.is("31: no refusal told by -2", x.status(10), 0);
        Due.is("31: no log", new OneCup().blink(0), -1);
    }

    private static void blinkOfOneAlone() {
        OneCup x = Due.ran("hand 0 { write a 1; gate { read a; write a 2; take p; give p; send x; } read a; take p; get x; }");
        Due.is("31: its own hand's acts about it are no ring", x.blink(0), 1);
    }

    private static void blinkOfTheOneThatItLiesIn() {
        // 1's write lies between the outermost one's two reads, not within the inner ones
        OneCup x = Due.told("hand 0 { start 1; gate { read a; gate { gate { gate { read b; } } } read a; } gate { read b; } } hand 1 { write a 2; }");
        Due.is("31: run", Due.run(x, 0, 0, 0, 0, 0, 0, 0, 0, 0, 0, 1), 16);
        Due.is("30: gates", x.gates(), 5);
        for (int g = 0; g < 4; g++) {
            Due.is("31: by the outermost", x.blink(g), 0);
        }
        Due.is("31: one beside", x.blink(4), 1);
    }

    private static void gateWithNothingWithin() {
        OneCup x = Due.told("hand 0 { start 1; write a 1; gate { } read b; } hand 1 { read a; write b 1; }");
        Due.is("31: run", Due.run(x, 0, 0, 0, 1, 1, 0), 7);
        Due.is("31: not on the ring that its hand is on", x.blink(0), 1);
    }

    private static void ringOfTwo() {
        // each kind of edge out of the gate and one back
        String[][] kinds = {
            {"write a 1; read b;", "read a; write b 1;"}, {"read a; read b;", "write a 1; write b 1;"}, {"turn a 1; turn b 1;", "turn a 1; turn b 1;"},
            {"take p; give p; take q;", "take p; take q; give q;"}, {"send x; get y;", "get x; send y;"}};
        for (String[] kind : kinds) {
            boolean bolts = kind[0].startsWith("take");
            OneCup x = Due.told("hand 0 { start 1; gate { " + kind[0] + " } } hand 1 { " + kind[1] + " }");
            if (bolts) {
                Due.run(x, 0, 0, 0, 0, 1, 1, 1);
            } else {
                Due.run(x, 0, 0, 0, 1, 1);
            }
            Due.is("IX: " + kind[0] + " and " + kind[1], x.blink(0), 0);
        }
        OneCup y = Due.told("hand 0 { start 1; gate { read a; read b; } } hand 1 { read a; write b 1; }");
        Due.run(y, 0, 0, 0, 1, 1);
        Due.is("IX: both reads", y.blink(0), 1);
        OneCup z = Due.ran("hand 0 { gate { start 1; } gate { wait 1; } } hand 1 { gate { read a; } }");
        for (int g = 0; g < 3; g++) {
            Due.is("IX: one behind the other", z.blink(g), 1);
        }
        OneCup w = Due.ran("hand 0 { gate { start 1; wait 1; } } hand 1 { gate { read a; } }");
        Due.is("IX: out and back", w.blink(0), 0);
        Due.is("IX: out and back", w.blink(1), 0);
    }

    // ---- 32 ----

    private static void joinOfNone() {
        OneCup x = new OneCup();
        Due.is("32: an empty log", x.join(), 0);
        Due.is("32: is one", x.status(9), 1);
        Due.is("32: no pairs", x.status(4), 0);
        Due.is("32: came already", x.join(), -1);
        Due.is("32: a text makes another", x.text(), 0);
        Due.is("32: it comes", x.join(), 0);
        Due.is("32: logs", x.status(9), 2);
        Due.is("32: without meetings", Due.ran(byNote("x")).join(), 0);
    }

    private static void joinOnce() {
        OneCup x = Due.ran(RACE);
        Due.is("32: new pairs", x.join(), 2);
        Due.is("32: came already", x.join(), -1);
        Due.is("32: a fault makes no log", Due.text(x, "hand 0 { } }"), -4);
        Due.is("32: came already", x.join(), -1);
        Due.is("32: nor does a run that is refused", x.run(0), -6);
        Due.is("32: came already", x.join(), -1);
        Due.is("32: logs", x.status(9), 1);
        Due.is("32: in how many", x.joined(0, 3), 1);
        Due.is("32: no refusal told by -2", x.status(10), 0);
        Due.is("32: a new run", x.runs(), 5);
        Due.is("32: no new pairs", x.join(), 0);
        Due.is("32: in how many", x.joined(0, 3), 2);
    }

    /** Hand 0 so many writes behind some blanks, hand 1 so many: pairs of all their places. */
    private static String pairs(int blanks, int one, int two) {
        return " ".repeat(blanks) + "hand 0 { start 1; " + "write a 1;".repeat(one) + " } hand 1 { " + "write a 1;".repeat(two) + " }";
    }

    private static int joinOf(OneCup x, String s) {
        Due.is("32: text", Due.text(x, s), 2);
        x.runs();
        return x.join();
    }

    private static void joinJustHundred() {
        Due.is("32: just 100", joinOf(new OneCup(), pairs(0, 10, 10)), 100);
        String oneMore = pairs(0, 10, 10).replace(" }", "write b 1; }");
        Due.is("32: 101 at once", joinOf(new OneCup(), oneMore), -3);
        OneCup x = new OneCup();
        Due.is("32: 99", joinOf(x, pairs(0, 11, 9)), 99);
        Due.is("32: one more", joinOf(x, pairs(1, 1, 1)), 1);
        Due.is("32: pairs", x.status(4), 100);
        Due.is("32: full, but these are there", joinOf(x, pairs(0, 11, 9)), 0);
        Due.is("32: full, and none is due", joinOf(x, "hand 0 { } hand 1 { }"), 0);
        Due.is("32: full, and one is due", joinOf(x, pairs(2, 1, 1)), -3);
        Due.is("32: pairs", x.status(4), 100);
        Due.is("32: logs", x.status(9), 4);
    }

    private static void joinOneTooMany() {
        OneCup x = new OneCup();
        Due.is("32: 99", joinOf(x, pairs(0, 11, 9)), 99);
        Due.is("32: two more", joinOf(x, pairs(1, 2, 1)), -3);
        Due.is("32: none comes", x.status(4), 99);
        Due.is("32: no log came", x.status(9), 1);
        Due.is("32: nor has it come", x.join(), -3);
        Due.is("32: no pair 99", x.joined(99, 0), Due.NOTHING);
        Due.is("32: no refusal told by -2", x.status(10), 0);
        Due.is("32: one more", joinOf(x, pairs(1, 1, 1)), 1);
        Due.row("32: the log behind it", new int[] {x.joined(99, 3), x.joined(99, 4), x.joined(99, 5)}, 1, 1, 1);
        Due.is("32: 110 at once", joinOf(new OneCup(), pairs(0, 11, 10)), -3);
    }

    /** Not even those that are there already count that log. */
    private static void joinNoneComes() {
        OneCup x = new OneCup();
        Due.is("32: 88", joinOf(x, pairs(0, 11, 8)), 88);
        Due.is("32: these and 22 more", joinOf(x, pairs(0, 11, 10)), -3);
        for (int k = 0; k < 88; k++) {
            Due.row("32: pair " + k, new int[] {x.joined(k, 3), x.joined(k, 4), x.joined(k, 5)}, 1, 0, 0);
        }
        Due.is("32: these and 11 more", joinOf(x, pairs(0, 11, 9)), 11);
        Due.row("32: one that was there", new int[] {x.joined(0, 3), x.joined(0, 4), x.joined(0, 5)}, 2, 0, 1);
        Due.row("32: one that is new", new int[] {x.joined(98, 3), x.joined(98, 4), x.joined(98, 5)}, 1, 1, 1);
    }

    // ---- X, 33 ----

    private static void countsOnceByLog() {
        OneCup x = Due.ran("hand 0 { start 1; times 9 { write a 1; } } hand 1 { times 9 { move a a; } }");
        Due.is("X: meets", x.meets(), 9 * 18);
        Due.is("X: one pair", x.join(), 1);
        Due.row("X: once", new int[] {x.joined(0, 3), x.joined(0, 4), x.joined(0, 5)}, 1, 0, 0);
    }

    private static void pairsByPlacesAndCell() {
        OneCup x = Due.ran("hand 0 { start 1; move a b; } hand 1 { move b a; }");
        Due.is("X: of one place each, two cells", x.join(), 2);
        Due.row("X: b or a", new int[] {x.joined(0, 0), x.joined(0, 1), x.joined(1, 0), x.joined(1, 1)}, 18, 39, 18, 39);
        Due.is("X: the cells", x.joined(0, 2) + x.joined(1, 2), 1);
        Due.is("X: by the act behind first", x.joined(0, 2), 1);
        // other texts with the same places and another cell; with the same cell
        Due.is("X: text", Due.text(x, "hand 0 { start 1; move c d; } hand 1 { move d c; }"), 2);
        x.runs();
        Due.is("X: other cells", x.join(), 2);
        Due.is("X: text", Due.text(x, "hand 0 { start 1; turn a 1; } hand 1 { turn a 2; }"), 2);
        x.runs();
        x.law(4, false);
        Due.is("X: other sorts alone", x.join(), 0);
        Due.row("X: three logs, the last has it too", new int[] {x.joined(1, 2), x.joined(1, 3), x.joined(1, 4), x.joined(1, 5)}, 0, 2, 0, 2);
    }

    private static void joinedOfNone() {
        OneCup x = Due.ran(RACE);
        Due.is("33: ahead of any", x.joined(0, 0), Due.NOTHING);
        Due.is("32: join", x.join(), 2);
        for (int what = 0; what < 6; what++) {
            Due.is("33: the last", x.joined(1, what) >= 0 ? 1 : 0, 1);
            Due.is("33: one behind", x.joined(2, what), Due.NOTHING);
            for (int k : FAR) {
                Due.is("33: pair " + k, x.joined(k, what), Due.NOTHING);
            }
        }
        Due.is("33: what 6", x.joined(1, 6), Due.NOTHING);
        for (int what : FAR) {
            Due.is("33: what " + what, x.joined(1, what), Due.NOTHING);
        }
        Due.is("33: no refusal told by -2", x.status(10), 0);
    }
}
