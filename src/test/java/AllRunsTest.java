/** Promises 24 to 26: all runs, their ends, hands that may wait for ever. */
public final class AllRunsTest {
    private static final String TWO_BOLTS =
        "hand 0 { start 1; take p; take q; give q; give p; } hand 1 { take q; take p; give p; give q; }";

    public static void main(String[] args) {
        ends();
        waits();
        unlike();
        moves();
        whatIsReadAlone();
        eachBoltAndNote();
        startsOfSome();
        manyStates();
        spent();
        Due.close();
    }

    private static int[] led(OneCup x) {
        int n = 0;
        while (x.led(n) >= 0) {
            n++;
        }
        int[] all = new int[n];
        for (int k = 0; k < n; k++) {
            all[k] = x.led(k);
        }
        return all;
    }

    private static void ends() {
        OneCup x = Due.told(TWO_BOLTS);
        Due.is("ends without a run", x.ends(), 2);
        Due.is("states", x.status(7), 20);
        Due.is("no run made", x.status(2), 0);
        Due.is("no log made", x.status(1), 0);
        Due.is("one", Due.told("hand 0 { write a 1; }").ends(), 1);
        Due.is("writes of two", Due.told("hand 0 { start 1; write a 1; } hand 1 { write a 2; }").ends(), 2);
        Due.is("turns of two", Due.told("hand 0 { start 1; turn a 1; } hand 1 { turn a 2; }").ends(), 1);
        Due.is("lost turns", Due.told("hand 0 { start 1; move a b; turn b 1; move b a; } hand 1 { move a c; turn c 1; move c a; }").ends(), 3);
    }

    private static void waits() {
        OneCup x = Due.told(TWO_BOLTS);
        Due.is("waits", x.waits(), 3);
        Due.row("led", led(x), 0, 0, 1);
        Due.is("led -1", x.led(-1), -1);
        Due.is("states", x.status(7), 20);
        Due.text(x, "hand 0 { start 1; take p; } hand 1 { }");
        Due.is("waits", x.waits(), 0);
        Due.is("states", x.status(7), 3);
        // the latest one that told bits
        Due.row("led", led(x), 0, 0, 1);
        Due.text(x, "hand 0 { give p; start 4; wait 4; } hand 4 { give p; get y; }");
        Due.is("waits", x.waits(), 17);
        Due.row("led, by what is gone by too", led(x), 0, 0, 4);
        Due.is("keep", x.keep(0), 0);
        Due.text(x, "");
        Due.is("waits", x.waits(), 0);
        Due.is("back", x.back(0), 0);
        Due.is("waits", x.waits(), 17);
    }

    /** Ends unlike in the hands that wait alone; the first of them. */
    private static void unlike() {
        OneCup x = Due.told("hand 0 { start 1; start 2; take p; } hand 1 { take p; } hand 2 { take p; give p; }");
        // p goes to 0, 1 or 2 first: 1 and 2 wait; 0 and 2 wait; behind 2's give one of 0, 1 waits
        Due.is("ends", x.ends(), 4);
        Due.is("waits", x.waits(), 6);
        Due.row("led", led(x), 0, 0, 0);
    }

    /** What was read for a move and not yet written is part of a state, and no longer behind the write. */
    private static void moves() {
        OneCup x = Due.told("hand 0 { start 1; move a b; write b 5; } hand 1 { write a 1; }");
        Due.is("ends", x.ends(), 1);
        // beginning; start; then (0, 1, 2, 3 codes of hand 0) by (a 0, a 1), what was read 0 or 1 where a is 1
        // none: a0 a1; read: a0/0 a1/0 a1/1; written: a0/b0 a1/b0 a1/b1; all: a0 a1
        Due.is("states", x.status(7), 1 + 2 + 3 + 3 + 2);
        Due.is("a move of what was there", Due.told("hand 0 { start 1; move a b; } hand 1 { turn a 1; }").ends(), 2);
    }

    /** What a read or an if has read is no part of a state; nor is that of a move that is written, or left out. */
    private static void whatIsReadAlone() {
        for (String look : new String[] {"read a;", "if a < 9 { }", "if a = 5 { }"}) {
            OneCup x = Due.told("hand 0 { start 1; " + look + " read b; } hand 1 { turn a 1; }");
            Due.is("one end", x.ends(), 1);
            Due.is("the beginning, and three by two: " + look, x.status(7), 1 + 3 * 2);
        }
        OneCup y = Due.told("hand 0 { start 1; if a = 0 { move b c; } read d; } hand 1 { turn a 1; }");
        Due.is("one end", y.ends(), 1);
        // of hand 0: at the if, at the move's read, at its write, at the read of d, at its end
        Due.is("a move that is left out", y.status(7), 1 + 2 + 2 + 2 + 2 + 2);
    }

    /** Each of them is a part of a state, whichever it is, and two at once. */
    private static void eachBoltAndNote() {
        for (String b : new String[] {"p", "q", "r", "s"}) {
            OneCup x = Due.told("hand 0 { start 1; take " + b + "; give " + b + "; } hand 1 { take " + b + "; give " + b + "; }");
            Due.is("ends by " + b, x.ends(), 1);
            Due.is("not both at once", x.status(7), 1 + 3 * 3 - 1);
            Due.is("none waits", x.waits(), 0);
            for (String c : new String[] {"p", "q", "r", "s"}) {
                OneCup y = Due.told("hand 0 { start 1; take " + b + "; take " + c + "; } hand 1 { take " + c + "; take " + b + "; }");
                Due.is("ends by " + b + c, y.ends(), b.equals(c) ? 1 : 3);
                Due.is("who waits first", y.waits(), b.equals(c) ? 3 : 2);
            }
        }
        for (String k : new String[] {"x", "y", "z"}) {
            OneCup x = Due.told("hand 0 { start 1; send " + k + "; send " + k + "; } hand 1 { get " + k + "; get " + k + "; }");
            Due.is("ends by " + k, x.ends(), 1);
            // (0, 0), (1, 0), (2, 0), (2, 1), (3, 0), (3, 1), (3, 2)
            Due.is("no get ahead of its send", x.status(7), 7);
            for (String m : new String[] {"x", "y", "z"}) {
                OneCup y = Due.told("hand 0 { start 1; send " + k + "; } hand 1 { get " + m + "; }");
                Due.is("waits for " + m, y.waits(), k.equals(m) ? 0 : 2);
                Due.is("states", y.status(7), k.equals(m) ? 4 : 3);
            }
        }
    }

    /** Three hands of 10, 11 and 12 turns: each state once, however many there are. */
    private static void manyStates() {
        OneCup x = Due.told("hand 0 { start 1; start 2; times 5 { turn a 7; turn a 90; } } hand 1 { turn b 1; times 5 { turn b 8; turn b 90; } }"
            + " hand 2 { times 6 { turn c 9; turn c 99; } }");
        Due.is("one end", x.ends(), 1);
        Due.is("states", x.status(7), 1 + 12 + 11 * 12 * 13);
        Due.is("acts", x.runs(), 35);
        Due.is("an order of none", x.could(0, 12), 0);
        Due.is("states", x.status(7), 1 + 12 + 11 * 12 * 13);
    }

    /** A hand that was started in one state is not in another. */
    private static void startsOfSome() {
        OneCup x = Due.told("hand 0 { start 1; if a = 0 { start 2; } } hand 1 { turn a 1; } hand 2 { write b 1; }");
        Due.is("with hand 2 or without", x.ends(), 2);
        // the beginning; at the if, at its end without: by two each, but the latter has turned; at start 2, 2 started, 2 gone
        Due.is("states", x.status(7), 1 + 2 + 1 + 2 + 2 + 2);
    }

    private static void spent() {
        String s = "{ times 2 { turn a 1; turn b 1; } }";
        OneCup x = Due.told("hand 0 { start 1; start 2; start 3; times 2 { turn a 1; } } hand 1 " + s + " hand 2 " + s + " hand 3 " + s);
        // at most 3 * 5 * 5 * 5 and three more
        Due.is("ends", x.ends(), 1);
        OneCup y = Due.told("hand 0 { start 1; start 2; start 3; get z; } hand 1 { times 5 " + s + " } hand 2 { times 5 " + s + " } hand 3 { times 5 " + s + " }");
        Due.is("ends", y.ends(), -3);
        Due.is("states", y.status(7), 3000);
        Due.is("waits", y.waits(), -3);
        Due.is("led", y.led(0), -1);
        Due.is("states", y.status(7), 3000);
        // 1 + 54 * 55 = 2971 states: all of them; 1 + 55 * 55 = 3026: too many
        OneCup z = Due.told("hand 0 { start 1; times 5 { times 9 { read a; } } times 8 { read a; } } hand 1 { times 6 { times 9 { read b; } } }");
        Due.is("ends", z.ends(), 1);
        Due.is("states", z.status(7), 2971);
        OneCup w = Due.told("hand 0 { start 1; times 6 { times 9 { read a; } } } hand 1 { times 6 { times 9 { read b; } } }");
        Due.is("ends", w.ends(), -3);
    }
}
