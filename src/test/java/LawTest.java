/** Promises 11 to 17: laws, what is before what and by what way, meetings, small marks. */
public final class LawTest {
    private static final String TWO =
        "hand 0 { start 1; write a 1; take p; write b 2; give p; wait 1; read a; }\n"
        + "hand 1 { read a; take p; read b; give p; turn a 5; }";

    public static void main(String[] args) {
        laws();
        before();
        ways();
        leastWays();
        eachLawOrders();
        meetings();
        turns();
        whatIsKnown();
        firstActs();
        small();
        manyMeetings();
        Due.close();
    }

    private static void laws() {
        OneCup x = new OneCup();
        for (int sort = 0; sort < 5; sort++) {
            Due.is("orders", x.law(sort, true), 1);
            Due.is("orders", x.law(sort, false), 1);
            Due.is("bits", x.status(6), 31 & ~(1 << sort));
            Due.is("orders not", x.law(sort, false), 0);
            Due.is("orders not", x.law(sort, true), 0);
            Due.is("bits", x.status(6), 31);
        }
        Due.is("law 5", x.law(5, true), -2);
        Due.is("law -1", x.law(-1, false), -2);
        Due.is("law of 2^31", x.law(Integer.MIN_VALUE, false), -2);
        Due.is("bits", x.status(6), 31);
        Due.is("refusals", x.status(10), 3);
        x.law(1, false);
        Due.text(x, "hand 0 { }");
        x.runs();
        Due.is("laws stay", x.status(6), 29);
    }

    private static void before() {
        OneCup x = Due.ran(TWO);
        Due.is("start", x.before(0, 5), 1);
        Due.is("start and all", x.before(0, 9), 1);
        Due.is("unordered", x.before(1, 5), 0);
        Due.is("give and take", x.before(4, 6), 1);
        Due.is("by the bolt", x.before(3, 7), 1);
        Due.is("by the bolt", x.before(1, 9), 1);
        Due.is("all and wait", x.before(5, 10), 1);
        Due.is("by the wait", x.before(9, 11), 1);
        Due.is("not backwards", x.before(5, 1), 0);
        Due.is("not backwards", x.before(11, 0), 0);
        Due.is("not itself", x.before(3, 3), 0);
        Due.is("own hand", x.before(1, 10), 1);
        Due.is("none such", x.before(0, 12), -2);
        Due.is("none such", x.before(12, 0), -2);
        Due.is("none such", x.before(-1, 0), -2);
        Due.is("none such", x.before(0, -1), -2);
        Due.is("refusals", x.status(10), 4);
    }

    private static void ways() {
        OneCup x = Due.ran(TWO);
        int[] due = {1, 2, 3, 4, 6, 7, 8, 9};
        for (int k = 0; k < due.length; k++) {
            Due.is("way 1 9 " + k, x.way(1, 9, k), due[k]);
        }
        Due.is("behind its end", x.way(1, 9, 8), -1);
        Due.is("ahead of it", x.way(1, 9, -1), -1);
        Due.is("start 0", x.way(0, 5, 0), 0);
        Due.is("start 1", x.way(0, 5, 1), 5);
        Due.is("start 2", x.way(0, 5, 2), -1);
        Due.is("wait", x.way(9, 11, 1), 10);
        Due.is("wait", x.way(9, 11, 2), 11);
        Due.is("none", x.way(1, 5, 0), -1);
        Due.is("itself", x.way(5, 5, 0), -1);
        Due.is("backwards", x.way(9, 1, 0), -1);
        Due.is("none such", x.way(0, 12, 0), -2);
        Due.is("none such", x.way(-1, 3, 0), -2);
        x.law(0, false);
        Due.is("no bolts", x.way(1, 9, 0), -1);
        Due.is("no bolts", x.way(0, 9, 5), 9);
    }

    /** Two ways of one length: from the end back, the least act. */
    private static void leastWays() {
        OneCup x = Due.told("hand 0 { start 1; start 2; send x; wait 2; } hand 1 { send y; get x; send z; } hand 2 { get y; get z; }");
        // 0 start 1, 1 start 2, 2 send x, 3 send y, 4 get x, 5 send z, 6 get y, 7 get z, 8 wait 2
        Due.is("acts", x.runs(), 9);
        Due.row("0 to 6", way(x, 0, 6), 0, 1, 6);
        Due.row("0 to 7", way(x, 0, 7), 0, 1, 6, 7);
        Due.row("2 to 8", way(x, 2, 8), 2, 8);
        Due.row("0 to 5", way(x, 0, 5), 0, 3, 4, 5);
        Due.row("0 to 8", way(x, 0, 8), 0, 1, 2, 8);
        Due.row("3 to 8", way(x, 3, 8), 3, 6, 7, 8);
        x.law(1, false);
        Due.row("3 to 8 without notes", way(x, 3, 8));
        x.law(3, false);
        Due.row("6 to 8 without waits", way(x, 6, 8));
        x.law(2, false);
        Due.row("1 to 6 without starts", way(x, 1, 6));
    }

    private static int[] way(OneCup x, int i, int j) {
        int n = 0;
        while (x.way(i, j, n) >= 0) {
            n++;
        }
        int[] all = new int[n];
        for (int k = 0; k < n; k++) {
            all[k] = x.way(i, j, k);
        }
        return all;
    }

    private static void meetsWithout(String s, int law) {
        OneCup x = Due.ran(s);
        Due.is("by law " + law, x.meets(), 0);
        Due.is("law " + law, x.law(law, false), 1);
        Due.is("without law " + law, x.meets(), 1);
        Due.is("law " + law, x.law(law, true), 0);
        Due.is("by law " + law, x.meets(), 0);
    }

    private static void eachLawOrders() {
        meetsWithout("hand 0 { start 1; take p; write a 1; give p; } hand 1 { take p; read a; give p; }", 0);
        meetsWithout("hand 0 { start 1; write a 1; send x; } hand 1 { get x; read a; }", 1);
        meetsWithout("hand 0 { write a 1; start 1; } hand 1 { read a; }", 2);
        meetsWithout("hand 0 { start 1; wait 1; write a 1; } hand 1 { read a; }", 3);
        meetsWithout("hand 0 { start 1; turn a 1; } hand 1 { turn a 1; }", 4);
        // notes come out as they went in
        OneCup x = Due.told("hand 0 { start 1; start 2; send x; write a 1; } hand 1 { write a 2; send x; } hand 2 { get x; read a; get x; }");
        Due.is("run", Due.run(x, 0, 0, 0, 1, 1, 2, 2, 2), 9);
        Due.is("the first send", x.before(2, 5), 1);
        Due.is("not the second", x.before(4, 5), 0);
        Due.is("the second", x.before(4, 7), 1);
        // a turn and the next one, though a write stands between
        OneCup y = Due.told("hand 0 { start 1; write b 1; turn a 1; write a 9; } hand 1 { turn a 1; read b; }");
        Due.is("acts", y.runs(), 6);
        Due.is("turns", y.before(2, 4), 1);
        Due.is("by turns", y.before(1, 5), 1);
        Due.is("not the write", y.before(3, 4), 0);
        Due.is("meets", y.meets(), 1);
        Due.is("ahead", y.meet(0, 0), 3);
        Due.is("behind", y.meet(0, 1), 4);
    }

    private static void meetings() {
        OneCup x = Due.ran("hand 0 { start 1; write a 1; write b 1; } hand 1 { read b; read a; }");
        Due.is("meets", x.meets(), 2);
        int[][] due = {{2, 3, 1, 29, 51}, {1, 4, 0, 18, 59}};
        for (int k = 0; k < 2; k++) {
            for (int what = 0; what < 5; what++) {
                Due.is("meet " + k + " " + what, x.meet(k, what), due[k][what]);
            }
        }
        Due.is("meet 2", x.meet(2, 0), Due.NOTHING);
        Due.is("meet -1", x.meet(-1, 0), Due.NOTHING);
        Due.is("meet what 5", x.meet(0, 5), Due.NOTHING);
        Due.is("meet what -1", x.meet(0, -1), Due.NOTHING);
        Due.is("first a", x.first(0), 1);
        Due.is("first b", x.first(1), 0);
        Due.is("first c", x.first(2), -1);
        Due.is("first 8", x.first(8), -2);
        Due.is("first -1", x.first(-1), -2);
        Due.is("refusals", x.status(10), 2);
        Due.is("reads do not meet", Due.ran("hand 0 { start 1; read a; } hand 1 { read a; }").meets(), 0);
        Due.is("of one hand", Due.ran("hand 0 { write a 1; write a 2; }").meets(), 0);
        Due.is("of two cells", Due.ran("hand 0 { start 1; write a 1; } hand 1 { write b 2; }").meets(), 0);
        Due.is("an if and a move read", Due.ran("hand 0 { start 1; if a < 9 { } move a b; } hand 1 { write a 2; write b 2; }").meets(), 3);
    }

    private static void turns() {
        OneCup x = Due.ran("hand 0 { start 1; turn a 1; read a; turn a 1; } hand 1 { turn a 1; read a; }");
        // 1 turn, 2 read, 3 turn, 4 turn, 5 read: 1 and 3 are before 4, so 2 is too
        Due.is("while turns order", x.meets(), 0);
        x.law(4, false);
        // 1, 2, 3 with 4; 1, 3 with 5
        Due.is("while they do not", x.meets(), 5);
        Due.is("a turn and a write", Due.ran("hand 0 { start 1; turn a 1; } hand 1 { write a 1; }").meets(), 1);
    }

    /** What a hand knows by one act it knows still behind another that knows less. */
    private static void whatIsKnown() {
        OneCup x = Due.ran("hand 0 { start 1; send x; write a 1; send y; } hand 1 { get y; get x; read a; }");
        Due.is("by y, though x came behind it", x.before(2, 6), 1);
        Due.is("meets", x.meets(), 0);
        OneCup y = Due.ran("hand 0 { start 1; write a 1; send x; write b 1; } hand 1 { get x; read a; read b; }");
        Due.is("of b alone", y.meets(), 1);
        Due.is("of b alone", y.meet(0, 2), 1);
        // without starts a hand's second act is behind its first, and behind what that one is behind
        OneCup z = Due.ran("hand 0 { start 1; write a 1; send x; } hand 1 { get x; read a; }");
        Due.is("starts", z.law(2, false), 1);
        Due.is("behind the send", z.before(2, 4), 1);
        Due.row("by its way", way(z, 2, 4), 2, 3, 4);
        Due.row("by its hand", way(z, 3, 4), 3, 4);
        Due.is("meets", z.meets(), 0);
    }

    /** Act 0 is one as any other. */
    private static void firstActs() {
        OneCup x = Due.told("hand 0 { send x; start 1; send x; } hand 1 { get x; read a; get x; }");
        Due.is("acts", x.runs(), 6);
        Due.is("the first get took the first send", x.before(2, 3), 0);
        Due.is("the second took the second", x.before(2, 5), 1);
        x.law(2, false);
        Due.is("by the send alone", x.before(0, 3), 1);
        Due.row("one step", way(x, 0, 3), 0, 3);
        // hand 1 has no acts, so that the wait for it is behind none
        OneCup y = Due.ran("hand 0 { start 2; start 1; } hand 2 { wait 1; read c; }");
        y.law(2, false);
        Due.is("not behind act 0", y.before(0, 2), 0);
        Due.is("nor behind the other start", y.before(1, 2), 0);
        OneCup z = Due.ran("hand 0 { write a 1; start 1; read b; } hand 1 { write a 2; }");
        z.law(2, false);
        Due.is("act 0 meets", z.meet(0, 0), 0);
        Due.is("small", z.small(1), 1);
        Due.is("mend", z.mend(), 1);
        OneCup w = Due.ran("hand 0 { turn a 1; start 1; } hand 1 { turn a 2; }");
        w.law(2, false);
        Due.is("by the turn", w.before(0, 2), 1);
        OneCup v = Due.ran("hand 1 { read b; } hand 0 { start 1; wait 1; }");
        v.law(2, false);
        Due.is("by the wait", v.before(1, 2), 1);
        Due.is("not by the start", v.before(0, 1), 0);
    }

    private static void small() {
        OneCup x = Due.ran("hand 0 { start 1; write a 1; write a 2; write a 3; } hand 1 { read b; read a; write a 4; }");
        // 1 2 3 with 5 and with 6
        Due.is("meets", x.meets(), 6);
        Due.is("small 1", x.small(1), 1);
        Due.is("small 2", x.small(2), 3);
        Due.is("small 3", x.small(3), 5);
        Due.is("small 4", x.small(4), 6);
        Due.is("small 40", x.small(40), 6);
        Due.is("small 0", x.small(0), -2);
        Due.is("small 41", x.small(41), -2);
        Due.is("small -1", x.small(-1), -2);
        OneCup y = Due.ran("hand 0 { start 1; write a 1; times 9 { times 5 { read a; } } } hand 1 { read a; }");
        Due.is("small 40", y.small(40), 0);
        Due.is("meets", y.meets(), 1);
    }

    private static void manyMeetings() {
        String s = "{ times 6 { times 9 { write a 1; } } }";
        OneCup x = Due.ran("hand 0 { start 1; start 2; start 3; start 4; start 5; times 6 { times 9 { write a 1; } } } hand 1 " + s
            + " hand 2 " + s + " hand 3 " + s + " hand 4 " + s + " hand 5 " + s);
        Due.is("acts", x.status(1), 5 + 6 * 54);
        Due.is("meets", x.meets(), 15 * 54 * 54);
        Due.is("the last one ahead", x.meet(15 * 54 * 54 - 1, 0), 5 + 5 * 54 - 1);
        Due.is("the last one behind", x.meet(15 * 54 * 54 - 1, 1), 5 + 6 * 54 - 1);
        Due.is("none behind", x.meet(15 * 54 * 54, 0), Due.NOTHING);
        Due.is("join", x.join(), 15);
        Due.is("habit", x.habit(), 15 * 54 * 54);
        Due.is("mend", x.mend(), 1);
        Due.is("least", x.least(), 0);
        OneCup y = Due.ran("hand 0 { start 5; write h 1; } hand 5 { times 6 { times 5 { turn h 1; read h; } } }");
        Due.is("with all acts of hand 5", y.meets(), 60);
        Due.is("the last one", y.meet(59, 1), 61);
    }
}
