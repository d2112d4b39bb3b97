/** Promises 18 to 20: other orders with the same reads, and what comes of either. */
public final class OrderTest {
    private static final String TWO =
        "hand 0 { start 1; write a 1; take p; write b 2; give p; wait 1; read a; }\n"
        + "hand 1 { read a; take p; read b; give p; turn a 5; }";

    public static void main(String[] args) {
        could();
        shownStays();
        shownOfAnotherLog();
        reads();
        bolts();
        notes();
        waits();
        eachCell();
        eachTwoCells();
        eachTwoHands();
        eachBolt();
        eachNote();
        spent();
        harm();
        harmStands();
        harmByTheNextOnes();
        Due.close();
    }

    private static void could() {
        OneCup x = Due.ran(TWO);
        Due.is("none yet", x.harm(), -1);
        Due.is("side by side", x.could(1, 5), 1);
        Due.is("states", x.status(7), 2);
        Due.is("shown", x.shown(0), 0);
        Due.is("shown", x.shown(1), -1);
        Due.is("shown", x.shown(-1), -1);
        Due.is("harm", x.harm(), 0);
        Due.is("either way round", x.could(5, 1), 1);
        Due.is("the read of a ahead", x.could(1, 9), 0);
        Due.is("states", x.status(7), 17);
        Due.is("within a bolt", x.could(3, 7), 0);
        Due.is("of one hand", x.could(0, 1), -2);
        Due.is("itself", x.could(1, 1), -2);
        Due.is("none such", x.could(0, 12), -2);
        Due.is("none such", x.could(-1, 5), -2);
        Due.is("refusals", x.status(10), 4);
        Due.is("states stay", x.status(7), 17);
        // not started yet as its start is next
        Due.is("a start and its hand", x.could(0, 5), 0);
        // laws do not matter
        x.law(2, false);
        Due.is("a start and its hand", x.could(0, 5), 0);
    }

    /** The ORDER stands until another could tells 1, its harm until another LOG is made. */
    private static void shownStays() {
        OneCup x = Due.ran(TWO);
        Due.is("could", x.could(1, 5), 1);
        Due.is("could not", x.could(3, 7), 0);
        Due.is("shown", x.shown(0), 0);
        Due.is("harm", x.harm(), 0);
        Due.is("refused", x.could(3, 3), -2);
        Due.is("shown", x.shown(0), 0);
        Due.is("a text that fails", Due.text(x, "hand"), -4);
        Due.is("a run that fails", x.run(3), -6);
        Due.is("harm", x.harm(), 0);
        Due.is("could", x.could(11, 5), 0);
        Due.is("keep", x.keep(0), 0);
        Due.is("harm", x.harm(), 0);
        Due.is("back", x.back(0), 0);
        Due.is("no harm behind back", x.harm(), -1);
        Due.is("shown behind back", x.shown(0), 0);
        Due.is("could", x.could(1, 5), 1);
        Due.is("runs", x.runs(), 12);
        Due.is("no harm behind runs", x.harm(), -1);
        Due.is("shown behind runs", x.shown(0), 0);
        Due.is("could", x.could(1, 5), 1);
        Due.is("row", x.row(0, 0, 0), 0);
        Due.is("run", x.run(0), 12);
        Due.is("no harm behind run", x.harm(), -1);
        Due.is("shown behind run", x.shown(0), 0);
        Due.is("could", x.could(1, 5), 1);
        Due.is("text", Due.text(x, "hand 0 { }"), 1);
        Due.is("no harm behind text", x.harm(), -1);
        Due.is("shown behind text", x.shown(0), 0);
        Due.is("no more shown", x.shown(1), -1);
    }

    /** An ORDER of another log is shown until a could of the new one tells 1, though it be by an empty ORDER. */
    private static void shownOfAnotherLog() {
        OneCup x = Due.ran("hand 0 { start 1; write a 1; write a 2; } hand 1 { read b; read a; }");
        Due.is("could", x.could(2, 4), 1);
        Due.row("shown", new int[] {x.shown(0), x.shown(1), x.shown(2), x.shown(3)}, 0, 0, 1, -1);
        Due.is("text", Due.text(x, "hand 0 { start 1; write a 1; } hand 1 { read a; }"), 2);
        Due.is("runs", x.runs(), 3);
        Due.row("shown", new int[] {x.shown(0), x.shown(1), x.shown(2), x.shown(3)}, 0, 0, 1, -1);
        Due.is("no harm of another log", x.harm(), -1);
        Due.is("could not", x.could(0, 2), 0);
        Due.is("shown", x.shown(1), 0);
        Due.is("still no harm", x.harm(), -1);
        Due.is("could", x.could(1, 2), 1);
        Due.row("shown", new int[] {x.shown(0), x.shown(1)}, 0, -1);
        Due.is("harm", x.harm(), 0);
    }

    private static void reads() {
        // 0 start, 1 write a 1, 2 read a, 3 write a 2 (hand 0), 4 read a, 5 write b 1 (hand 1)
        OneCup x = Due.ran("hand 0 { start 1; write a 1; read a; write a 2; } hand 1 { read a; write b 1; }");
        Due.is("its read must see the write", x.could(3, 5), 0);
        Due.is("side by side", x.could(3, 4), 1);
        Due.is("shown", x.shown(2), 0);
        Due.is("shown", x.shown(3), -1);
        Due.is("harm", x.harm(), 0);
        // 4 sees none: hand 1 may be ahead, but then 1 and 4 stand side by side at once
        OneCup y = Due.told("hand 0 { start 1; write a 1; } hand 1 { read a; write b 1; turn a 1; }");
        Due.is("run", Due.run(y, 0, 1, 1, 0, 1), 5);
        Due.is("the write and the write of b", y.could(3, 2), 1);
        Due.is("shown", y.shown(1), 1);
        Due.is("the turn must see the write, and did it not in this order", y.could(3, 4), 1);
        Due.is("shown", y.shown(2), 1);
        Due.is("harm", y.harm(), 1);
    }

    private static void bolts() {
        OneCup x = Due.ran("hand 0 { start 1; take p; write a 1; give p; } hand 1 { take p; write a 2; give p; write b 1; }");
        Due.is("takes", x.could(1, 4), 1);
        Due.is("within", x.could(2, 5), 0);
        Due.is("the other hand first", x.could(1, 7), 1);
        Due.row("shown", new int[] {x.shown(0), x.shown(1), x.shown(2), x.shown(3), x.shown(4)}, 0, 1, 1, 1, -1);
        Due.is("a take need not be done", x.could(4, 2), 1);
        Due.is("harm", x.harm(), 0);
    }

    private static void notes() {
        // 0 start 1, 1 start 2, 2 send x (0), 3 read b (0), 4 send x (1), 5 get x (2), 6 get x (2), 7 read c (2)
        OneCup x = Due.ran("hand 0 { start 1; start 2; send x; read b; } hand 1 { send x; } hand 2 { get x; get x; read c; }");
        Due.is("acts", x.status(1), 8);
        Due.is("the get is behind its own send", x.could(2, 6), 0);
        Due.is("sends among themselves", x.could(2, 4), 1);
        Due.is("one send is enough", x.could(4, 6), 1);
        Due.is("both are due", x.could(4, 7), 0);
        Due.is("a get may be next ahead of its send", x.could(2, 5), 1);
    }

    private static void waits() {
        OneCup x = Due.ran("hand 0 { start 1; wait 1; read b; } hand 1 { write a 1; write a 2; }");
        // 0 start 1, 1 write, 2 write, 3 wait, 4 read b
        Due.is("a wait may be next", x.could(3, 1), 1);
        Due.is("behind the wait all are done", x.could(4, 2), 0);
        Due.is("behind the wait all are done", x.could(4, 1), 0);
    }

    /** What was written last in a cell is part of a state, whichever cell it is. */
    private static void eachCell() {
        for (char c = 'a'; c <= 'h'; c++) {
            OneCup x = Due.ran("hand 0 { start 1; write " + c + " 1; } hand 1 { write " + c + " 2; }");
            Due.is("not while the start is next", x.could(0, 2), 0);
            // (0, 0), (1, 0), (2, 0), (1, 1), and (2, 1) with either written last
            Due.is("states of " + c, x.status(7), 6);
            // 0 start, 1 read, 2 write, 3 read (0); 4 read, 5 turn (1)
            OneCup y = Due.ran("hand 0 { start 1; read " + c + "; write " + c + " 1; read " + c + "; } hand 1 { read " + c + "; turn " + c + " 2; }");
            Due.is("a read of none and one of the write", y.could(1, 4), 1);
            Due.is("the write and a read of it", y.could(2, 5), 0);
            Due.is("a read and the turn, both of the write", y.could(3, 5), 1);
            // not while 5 is next: behind it the read would see the turn
            Due.is("states", y.could(0, 4), 0);
            // (0..3, 0), (3, 1), (3, 2), (4, 0), (4, 1), (4, 2): of 0 its acts done, of 1 its own
            Due.is("states of " + c, y.status(7), 9);
        }
    }

    /** What was written last in each of two cells. */
    private static void eachTwoCells() {
        for (char c = 'a'; c <= 'h'; c++) {
            for (char d = 'a'; d <= 'h'; d++) {
                if (c == d) {
                    continue;
                }
                OneCup x = Due.ran("hand 0 { start 1; write " + c + " 1; write " + d + " 1; } hand 1 { write " + c + " 2; write " + d + " 2; }");
                Due.is("not while the start is next", x.could(0, 3), 0);
                // one; by none, or by one hand alone: five; (1, 1), (2, 1), (1, 2) by two each; (2, 2) by four
                Due.is("states of " + c + " and " + d, x.status(7), 1 + 5 + 6 + 4);
            }
        }
    }

    /** How far each hand is is part of a state, whichever it is. */
    private static void eachTwoHands() {
        for (int g = 1; g < 6; g++) {
            for (int h = g + 1; h < 6; h++) {
                OneCup x = Due.ran("hand 0 { start " + g + "; start " + h + "; } hand " + g + " { read a; read b; } hand " + h + " { read c; read d; }");
                Due.is("both of " + g + " and " + h, x.could(3, 5), 1);
                Due.row("shown", new int[] {x.shown(0), x.shown(1), x.shown(2), x.shown(3), x.shown(4)}, 0, 0, g, h, -1);
                Due.is("not while the first start is next", x.could(0, 5), 0);
                Due.is("states", x.status(7), 1 + 3 + 9);
            }
        }
    }

    private static void eachBolt() {
        for (String b : new String[] {"p", "q", "r", "s"}) {
            OneCup x = Due.ran("hand 0 { start 1; take " + b + "; read a; give " + b + "; } hand 1 { take " + b + "; read c; give " + b + "; }");
            Due.is("within " + b, x.could(2, 5), 0);
            // the beginning, and (0..3, 0..3) without those at which both have it: 1 or 2 done of either
            Due.is("states of " + b, x.status(7), 1 + 16 - 4);
            Due.is("behind it", x.could(3, 4), 1);
            for (String other : new String[] {"p", "q", "r", "s"}) {
                if (!b.equals(other)) {
                    OneCup y = Due.ran("hand 0 { start 1; take " + b + "; read a; give " + b + "; } hand 1 { take " + other + "; read c; }");
                    Due.is("within " + b + " and " + other, y.could(2, 5), 1);
                }
            }
        }
    }

    /** A get is behind its own send and the get ahead of its note, not behind those of others. */
    private static void eachNote() {
        String[] names = {"x", "y", "z"};
        for (String k : names) {
            for (String m : names) {
                // 0, 1 starts; 2 send k, 3 read a (0); 4 send m, 5 read b (1); 6 get k, 7 get m, 8 read c (2)
                OneCup x = Due.told("hand 0 { start 1; start 2; send " + k + "; read a; } hand 1 { send " + m + "; read b; } hand 2 { get " + k + "; get " + m + "; read c; }");
                Due.is("run", x.runs(), 9);
                Due.is("the first get needs its own send alone", x.could(4, 7), 1);
                Due.is("both are due", x.could(4, 8), 0);
                Due.is("sends among themselves", x.could(2, 5), k.equals(m) ? 0 : 1);
                // 3 get m is hand 1's, 4 get k is hand 2's: those of one note as in the LOG
                OneCup y = Due.told("hand 0 { start 1; start 2; send " + k + "; send " + m + "; read a; } hand 1 { get " + k + "; read b; } hand 2 { get " + m + "; read c; }");
                Due.is("run", y.runs(), 9);
                Due.is("gets among themselves", y.could(5, 8), k.equals(m) ? 0 : 1);
                Due.is("either may be next", y.could(5, 7), 1);
            }
        }
    }

    private static void spent() {
        // Five hands of twelve reads each: far more states than are gone through.
        String s = "{ times 6 { read a; read b; } }";
        OneCup x = Due.ran("hand 0 { start 1; start 2; start 3; start 4; times 6 { read a; read b; } } hand 1 " + s
            + " hand 2 " + s + " hand 3 " + s + " hand 4 " + s);
        Due.is("spent", x.could(15, 27), -3);
        Due.is("states", x.status(7), 3000);
        Due.is("no harm by it", x.harm(), -1);
        Due.is("the first states are enough", x.could(4, 16), 1);
        // Two hands of 53 and 55 acts: 55 * 55 states and the one at the beginning, 3026, are too many.
        OneCup y = Due.ran("hand 0 { start 1; times 6 { times 9 { read a; } } read a; } hand 1 { times 6 { times 9 { read b; } } }");
        Due.is("spent", y.could(55, 109), -3);
        // 1 + 54 * 55 = 2971 states: all of them, and none does it
        OneCup z = Due.ran("hand 0 { start 1; times 5 { times 9 { read a; } } times 7 { read a; } wait 1; }"
            + " hand 1 { times 6 { times 9 { read b; } } }");
        Due.is("acts", z.status(1), 108);
        Due.is("a start and a read", z.could(0, 60), 0);
        Due.is("states", z.status(7), 1 + 53 * 55 + 1);
    }

    private static void harm() {
        OneCup x = Due.ran("hand 0 { start 1; write a 1; } hand 1 { write a 2; }");
        Due.is("could", x.could(1, 2), 1);
        Due.is("another a", x.harm(), 1);
        OneCup y = Due.ran("hand 0 { start 1; if a = 0 { get x; } write b 1; } hand 1 { turn a 1; }");
        Due.is("could", y.could(1, 2), 1);
        Due.is("another b, and one waits", y.harm(), 258);
        OneCup z = Due.ran("hand 0 { start 1; if a = 0 { get x; } } hand 1 { turn a 1; }");
        Due.is("could", z.could(2, 1), 1);
        Due.is("one waits", z.harm(), 256);
        // a give that is no act is gone by on the way to the write
        OneCup w = Due.ran("hand 0 { start 1; give p; give q; write a 1; write h 3; } hand 1 { give r; write a 2; move a h; }");
        Due.is("could", w.could(1, 3), 1);
        Due.is("another a, another h", w.harm(), 129);
    }

    /** Both go at once behind the ORDER, ahead of any hand that is less. */
    private static void harmByTheNextOnes() {
        OneCup x = Due.ran("hand 0 { start 1; start 2; move a b; } hand 1 { turn a 1; } hand 2 { move a c; }");
        // 2, 3 move (0), 4 turn (1), 5, 6 move (2)
        Due.is("could", x.could(4, 5), 1);
        // b is 1 either way: hand 0 moves behind both
        Due.is("c alone", x.harm(), 4);
        Due.is("could", x.could(5, 4), 1);
        Due.is("c alone", x.harm(), 4);
    }

    /** The harm is of the latest could that told 1, and of no other LOG. */
    private static void harmStands() {
        OneCup x = Due.ran("hand 0 { start 1; write a 1; write b 1; } hand 1 { write a 2; write b 2; }");
        Due.is("could", x.could(1, 3), 1);
        // both in turn: hand 0 ends b first, as the least hand
        Due.is("harm", x.harm(), 1);
        Due.is("could", x.could(2, 4), 1);
        Due.is("harm", x.harm(), 2);
        Due.is("could not", x.could(0, 4), 0);
        Due.is("harm", x.harm(), 2);
    }
}
