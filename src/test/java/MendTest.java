/** Promises 27 to 29: what must be logged, what must be guarded. */
public final class MendTest {
    public static void main(String[] args) {
        may();
        least();
        leastOfAll();
        mend();
        Due.close();
    }

    private static final String NOTE = "hand 0 { start 1; write a 1; send x; } hand 1 { get x; read a; }";
    private static final String BOLT = "hand 0 { start 1; take s; write a 1; give s; } hand 1 { take s; read a; give s; }";

    private static void may() {
        OneCup x = Due.ran(NOTE);
        Due.is("all", x.may(127), 0);
        Due.is("bolts", x.may(15), 1);
        Due.is("note x", x.may(16), 0);
        Due.is("note y", x.may(32), 1);
        Due.is("none", x.may(0), 1);
        Due.is("may 128", x.may(128), -2);
        Due.is("may -1", x.may(-1), -2);
        Due.is("refusals", x.status(10), 2);
        x.law(1, false);
        Due.is("without notes", x.may(127), 1);
        OneCup y = Due.ran(BOLT);
        Due.is("bolt s", y.may(8), 0);
        Due.is("all but s", y.may(119), 1);
        // those ahead and behind of the hand are ordered all the same
        OneCup z = Due.ran("hand 0 { write a 1; take p; start 1; send y; } hand 1 { get y; read a; }");
        Due.is("by the start", z.may(0), 0);
    }

    private static void least() {
        Due.is("note", Due.ran(NOTE).least(), 16);
        Due.is("bolt", Due.ran(BOLT).least(), 8);
        Due.is("nothing to order", Due.ran("hand 0 { take p; send x; give p; get x; }").least(), 0);
        Due.is("ordered by the start", Due.ran("hand 0 { write a 1; send x; start 1; } hand 1 { get x; read a; }").least(), 0);
        OneCup x = Due.ran(NOTE);
        x.law(1, false);
        Due.is("without the law", x.least(), 0);
        // p alone, or x alone, would do: the least bits
        Due.is("one of two", Due.ran("hand 0 { start 1; take p; write a 1; give p; send x; } hand 1 { take p; get x; read a; }").least(), 1);
        // the cell a needs y, the cell b needs q
        Due.is("two", Due.ran("hand 0 { start 1; start 2; write a 1; send y; take q; write b 1; give q; }"
            + " hand 1 { get y; read a; } hand 2 { take q; read b; give q; }").least(), 34);
        // r and s would do, but one note does all the same
        Due.is("fewest before least", Due.ran("hand 0 { start 1; start 2; take p; write a 1; give p; take q; write b 1; give q; send z; send z; }"
            + " hand 1 { take p; get z; read a; } hand 2 { take q; get z; read b; }").least(), 64);
    }

    /** Each cell is ordered by its own bolt or note alone, so all of them are needed. */
    private static void leastOfAll() {
        String s = "hand 0 { start 1; take p; write a 1; give p; take q; write b 1; give q; take r; write c 1; give r;"
            + " take s; write d 1; give s; write e 1; send x; write f 1; send y; write g 1; send z; }"
            + " hand 1 { take p; read a; give p; take q; read b; give q; take r; read c; give r;"
            + " take s; read d; give s; get x; read e; get y; read f; get z; read g; }";
        OneCup x = Due.ran(s);
        Due.is("all of them", x.least(), 127);
        for (int mark = 0; mark < 7; mark++) {
            Due.is("without " + mark, x.may(127 & ~(1 << mark)), 1);
        }
        Due.is("with none", x.may(0), 7);
        for (int law = 0; law < 5; law++) {
            x.law(law, false);
        }
        Due.is("without laws", x.least(), 0);
        Due.is("seven cells", x.mend(), 127);
    }

    private static void mend() {
        Due.is("none", Due.ran(NOTE).mend(), 0);
        Due.is("no log", new OneCup().mend(), 0);
        Due.is("c", Due.ran("hand 0 { start 1; write c 1; } hand 1 { read c; }").mend(), 4);
        Due.is("b orders a", Due.ran("hand 0 { start 1; write a 1; write b 1; } hand 1 { read b; read a; }").mend(), 2);
        Due.is("both", Due.ran("hand 0 { start 1; write a 1; write b 1; } hand 1 { read a; read b; }").mend(), 3);
        // a guard of a orders c as well, but not b
        Due.is("two of three", Due.ran("hand 0 { start 1; write b 1; read c; write a 1; } hand 1 { write b 2; read a; write c 1; }").mend(), 3);
        Due.is("h", Due.ran("hand 0 { start 1; write a 1; write h 1; } hand 1 { read h; read a; }").mend(), 128);
        // reads of c have no meetings, but a guard would order by them: fewest, then least
        Due.is("a, not c", Due.ran("hand 0 { start 1; write a 1; read c; } hand 1 { read c; read a; }").mend(), 1);
        Due.is("c alone for two", Due.ran("hand 0 { start 1; write a 1; write b 1; read c; } hand 1 { read c; read a; read b; }").mend(), 4);
    }
}
