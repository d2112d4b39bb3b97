/** Promises 6 to 10: runs, their acts, cells behind them, hands that wait for ever. */
public final class RunTest {
    private static final String TWO =
        "hand 0 { start 1; write a 1; take p; write b 2; give p; wait 1; read a; }\n"
        + "hand 1 { read a; take p; read b; give p; turn a 5; }";

    public static void main(String[] args) {
        withoutRow();
        byRow();
        refused();
        sortsOfActs();
        goneBy();
        ifs();
        gatesAreCounted();
        waiting();
        notes();
        moves();
        Due.close();
    }

    private static void act(OneCup x, int i, int... want) {
        for (int what = 0; what < want.length; what++) {
            Due.is("act " + i + " " + what, x.act(i, what), want[what]);
        }
    }

    private static void withoutRow() {
        OneCup x = Due.told(TWO);
        Due.is("runs", x.runs(), 12);
        act(x, 0, 0, 7, 1, 0, 9, 0, 0);
        act(x, 1, 0, 1, 0, 1, 18, 1, 0);
        act(x, 2, 0, 3, 0, 0, 29, 2, 1);
        act(x, 3, 0, 1, 1, 2, 37, 3, 1);
        act(x, 4, 0, 4, 0, 0, 48, 4, 0);
        act(x, 5, 1, 0, 0, 1, 83, 0, 0);
        act(x, 6, 1, 3, 0, 0, 91, 1, 1);
        act(x, 7, 1, 0, 1, 2, 99, 2, 1);
        act(x, 8, 1, 4, 0, 0, 107, 3, 0);
        act(x, 9, 1, 2, 0, 6, 115, 4, 0);
        act(x, 10, 0, 8, 1, 0, 56, 5, 0);
        act(x, 11, 0, 0, 0, 6, 64, 6, 0);
        Due.is("no act 12", x.act(12, 0), Due.NOTHING);
        Due.is("no act -1", x.act(-1, 0), Due.NOTHING);
        Due.is("no what 7", x.act(0, 7), Due.NOTHING);
        Due.is("no what -1", x.act(0, -1), Due.NOTHING);
        Due.is("cell a", x.cell(0), 6);
        Due.is("cell b", x.cell(1), 2);
        Due.is("cell h", x.cell(7), 0);
        Due.is("cell 8", x.cell(8), Due.NOTHING);
        Due.is("cell -1", x.cell(-1), Due.NOTHING);
        Due.is("stuck", x.stuck(), 0);
        Due.is("idle", x.status(3), 0);
    }

    private static void byRow() {
        OneCup x = Due.told(TWO);
        // hand 1 is not started; hand 9 and hand -1 are none; 2 is not told
        Due.is("run", Due.run(x, 1, 0, 1, 9, -1, 2, 0, 1L << 32), 12);
        Due.is("idle", x.status(3), 5);
        act(x, 0, 0, 7);
        act(x, 1, 1, 0, 0, 0, 83, 0, 0);
        act(x, 2, 0, 1, 0, 1);
        Due.is("runs", x.status(2), 1);
        Due.is("the same once more", x.run(0), 12);
        Due.is("runs", x.status(2), 2);
        // a bolt that is not free
        Due.is("run", Due.run(x, 0, 0, 0, 1, 1, 1, 0, 0, 1), 12);
        Due.is("idle", x.status(3), 2);
        act(x, 5, 0, 4);
        act(x, 6, 1, 3);
        Due.is("without", x.runs(), 12);
        Due.is("idle of runs", x.status(3), 0);
        Due.is("empty row", Due.run(x), 12);
        Due.is("idle", x.status(3), 0);
        Due.is("runs", x.status(2), 5);
    }

    private static void refused() {
        OneCup x = Due.ran(TWO);
        Due.is("slot 4", x.run(4), -2);
        Due.is("slot -1", x.run(-1), -2);
        Due.is("no row", x.run(3), -6);
        Due.is("log stays", x.status(1), 12);
        Due.is("runs", x.status(2), 1);
        Due.is("refusals", x.status(10), 2);
    }

    private static void sortsOfActs() {
        OneCup x = Due.ran("hand 0 { take s; send z; get z; start 5; wait 5; gate { turn h 3; turn h 4; } give s; }");
        act(x, 0, 0, 3, 3, 0, 9, 0, 8);
        act(x, 1, 0, 5, 2, 0, 17, 1, 8);
        act(x, 2, 0, 6, 2, 0, 25, 2, 8);
        act(x, 3, 0, 7, 5, 0, 32, 3, 8);
        act(x, 4, 0, 8, 5, 0, 41, 4, 8);
        act(x, 5, 0, 9, 0, 0, 49, 5, 8);
        act(x, 6, 0, 2, 7, 3, 56, 6, 8);
        act(x, 7, 0, 2, 7, 7, 66, 7, 8);
        act(x, 8, 0, 10, 0, 0, 49, 8, 8);
        act(x, 9, 0, 4, 3, 0, 78, 9, 0);
        Due.is("acts", x.status(1), 10);
        Due.is("hand 0 need not be told", Due.ran("hand 1 { read a; }").status(1), 0);
    }

    private static void goneBy() {
        OneCup x = Due.told("hand 0 { give p; start 0; start 1; start 1; write a 1; } hand 1 { give q; take q; give p; give q; }");
        // each of these is gone by, or done, by one number
        Due.is("run", Due.run(x, 0, 0, 0, 1, 1, 1), 4);
        Due.is("idle", x.status(3), 0);
        act(x, 0, 0, 7, 1, 0, 26, 0, 0);
        act(x, 1, 1, 3, 1, 0, 74, 0, 2);
        act(x, 2, 0, 1, 0, 1, 44, 1, 0);
        act(x, 3, 1, 4, 1, 0, 90, 1, 0);
        Due.is("stuck", x.stuck(), 0);
    }

    private static void ifs() {
        OneCup x = Due.ran("hand 0 { write a 5; if a < 5 { write b 1; } if a < 6 { write c 1; } if a = 5 { write d 1; }"
            + " if a = 4 { write e 1; if a = 5 { write f 1; } } times 3 { if g < 2 { turn g 1; } } }");
        Due.is("b", x.cell(1), 0);
        Due.is("c", x.cell(2), 1);
        Due.is("d", x.cell(3), 1);
        Due.is("e", x.cell(4), 0);
        Due.is("f", x.cell(5), 0);
        Due.is("g", x.cell(6), 2);
        // write, four ifs with two writes, three ifs with two turns
        Due.is("acts", x.status(1), 1 + 4 + 2 + 3 + 2);
        act(x, 1, 0, 0, 0, 5, 20);
        Due.is("an if with nothing within", Due.ran("hand 0 { if a < 1 { } if a = 1 { } }").status(1), 2);
    }

    private static void gatesAreCounted() {
        OneCup x = Due.ran("hand 0 { gate { gate { } if a = 1 { gate { } } times 2 { gate { } } } gate { get x; } }");
        int[] sorts = {9, 9, 10, 0, 9, 10, 9, 10, 10, 9};
        int[] which = {0, 1, 1, 0, 2, 2, 3, 3, 0, 4};
        for (int i = 0; i < sorts.length; i++) {
            Due.is("sort", x.act(i, 1), sorts[i]);
            Due.is("which", x.act(i, 2), which[i]);
        }
        Due.is("acts", x.status(1), sorts.length);
        Due.is("gates", x.gates(), 5);
    }

    private static void waiting() {
        Due.is("itself", Due.ran("hand 0 { wait 0; }").stuck(), 1);
        Due.is("never started", Due.ran("hand 0 { wait 1; }").stuck(), 1);
        Due.is("started, not told", Due.ran("hand 0 { start 4; wait 4; }").stuck(), 0);
        Due.is("its own bolt", Due.ran("hand 0 { take p; take p; }").stuck(), 1);
        Due.is("a bolt of an ended hand", Due.ran("hand 0 { take p; start 1; } hand 1 { take p; }").stuck(), 2);
        Due.is("no note", Due.ran("hand 0 { start 3; get z; } hand 3 { get y; send z; }").stuck(), 9);
        Due.is("both wait", Due.ran("hand 0 { start 5; wait 5; } hand 5 { wait 0; }").stuck(), 33);
        Due.is("not started does not wait", Due.ran("hand 1 { wait 1; }").stuck(), 0);
    }

    private static void notes() {
        OneCup x = Due.ran("hand 0 { start 1; send x; send x; send y; } hand 1 { get x; get x; get y; get x; }");
        Due.is("acts", x.status(1), 7);
        Due.is("stuck", x.stuck(), 2);
        act(x, 4, 1, 6, 0, 0, 53, 0, 0);
    }

    private static void moves() {
        OneCup x = Due.told("hand 0 { start 1; move a b; } hand 1 { write a 7; }");
        Due.is("run", Due.run(x, 0, 0, 1), 4);
        Due.is("b has what was read", x.cell(1), 0);
        Due.is("run", Due.run(x, 0, 1), 4);
        Due.is("b has what was read", x.cell(1), 7);
        act(x, 2, 0, 0, 0, 7, 18, 1, 0);
        act(x, 3, 0, 1, 1, 7, 18, 2, 0);
        OneCup y = Due.ran("hand 0 { write a 3; move a a; move a b; turn b 999; move b c; times 4 { turn c 999; } }");
        Due.is("c", y.cell(2), 3 + 999 * 5);
    }
}
