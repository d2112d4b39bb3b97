/** An object that had other texts, logs, books and images before answers as a new one does: nothing shines through. */
public final class AgainTest {
    private static final String SIXTY = " { times 6 { times 9 { turn a 999; } read a; } }";
    /** Texts that leave much behind: full logs, open gates, held bolts, notes not taken, hands that wait. */
    private static final String[] TEXTS = {
        "",
        "hand 0 { start 1; write a 1; } hand 1 { read a; }",
        "hand 0 { start 1; start 2; start 3; start 4; start 5; times 5 { times 9 { turn a 9; } read h; write h 2; } } hand 1" + SIXTY + " hand 2" + SIXTY
            + " hand 3" + SIXTY + " hand 4" + SIXTY + " hand 5" + SIXTY,
        "hand 0 { start 1; gate { gate { gate { gate { write b 3; get x; } } } } } hand 1 { gate { gate { move b c; take p; take q; get y; } } }",
        "hand 0 { start 1; read a; send x; get y; read b; } hand 1 { get x; send y; take r; take s; }",
        "hand 0 { start 1; gate { read a; read b; } gate { } } hand 1 { read c; read d; gate { gate { } } }",
        "hand 0 { start 1; send x; send y; send z; take p; take q; take r; take s; } hand 1 { send x; get x; get x; get z; get z; }",
        "hand 0 { start 1; take p; take q; give q; give p; wait 1; } hand 1 { take q; take p; give p; give q; move d e; }",
        "hand 0 { start 2; start 3; move a b; if b = 0 { turn a 1; } write f 1; } hand 2 { move b a; if a < 5 { turn b 7; } } hand 3 { turn f 3; get z; }",
        "hand 0 { start 1; start 2; turn a 1; times 9 { times 3 { move a b; } } } hand 1 { turn a 1; times 9 { times 3 { move a c; } } }"
            + " hand 2 { turn a 1; times 9 { times 3 { move a d; } } }",
        "hand 0 { start 1; if a = 0 { write b 0; } read d; } hand 1 { turn a 1; if c = 0 { write e 0; } read a; }",
        "hand 0 { get x; }",
        "hand 1 { write a 1; }",
    };

    public static void main(String[] args) {
        for (int one = 0; one < TEXTS.length; one++) {
            for (int two = 0; two < TEXTS.length; two++) {
                for (int part = 0; part < 5; part++) {
                    compare("behind another text", behindAnother(TEXTS[one], TEXTS[two]), fresh(TEXTS[two]), part);
                    compare("gone back to", goneBackTo(TEXTS[one], TEXTS[two]), fresh(TEXTS[two]), part);
                }
                books(TEXTS[one], TEXTS[two]);
                counts(TEXTS[one], TEXTS[two]);
            }
        }
        Due.close();
    }

    private static OneCup fresh(String s) {
        OneCup x = new OneCup();
        Due.text(x, s);
        x.runs();
        return x;
    }

    /** Looks at much of the log, so that what is held ready for it is made. */
    private static void look(OneCup x) {
        x.meets();
        x.could(0, x.status(1) - 1);
        x.waits();
        x.least();
        x.mend();
        x.blink(0);
        x.way(0, 3, 1);
    }

    private static OneCup behindAnother(String one, String two) {
        OneCup x = fresh(one);
        look(x);
        Due.text(x, two);
        x.runs();
        return x;
    }

    private static OneCup goneBackTo(String one, String two) {
        OneCup x = fresh(two);
        look(x);
        x.keep(2);
        Due.text(x, one);
        x.runs();
        look(x);
        x.back(2);
        return x;
    }

    /** At most 512 calls of each, so they are asked in parts. */
    private static void compare(String how, OneCup x, OneCup y, int part) {
        switch (part) {
            case 0: acts(how, x, y); break;
            case 1: cells(how, x, y); break;
            case 2: lawful(how, x, y); break;
            case 3: orders(how, x, y); break;
            default: allRuns(how, x, y); break;
        }
    }

    private static void acts(String how, OneCup x, OneCup y) {
        int n = y.status(1);
        Due.is(how + ": acts", x.status(1), n);
        for (int i = Math.max(0, n - 40); i <= n; i++) {
            for (int what = 0; what < 7; what++) {
                Due.is(how + ": act " + i + " " + what, x.act(i, what), y.act(i, what));
            }
        }
    }

    private static void cells(String how, OneCup x, OneCup y) {
        for (int c = 0; c < 8; c++) {
            Due.is(how + ": cell " + c, x.cell(c), y.cell(c));
            Due.is(how + ": first " + c, x.first(c), y.first(c));
            Due.is(how + ": always " + c, x.always(c), y.always(c));
        }
        Due.is(how + ": stuck", x.stuck(), y.stuck());
        Due.is(how + ": hands", x.status(0), y.status(0));
        Due.is(how + ": habit", x.habit(), y.habit());
        Due.is(how + ": ring", x.ring(), y.ring());
        Due.is(how + ": gates", x.gates(), y.gates());
        for (int g = 0; g < 8; g++) {
            Due.is(how + ": blink " + g, x.blink(g), y.blink(g));
        }
        Due.is(how + ": harm", x.harm(), y.harm());
    }

    private static void lawful(String how, OneCup x, OneCup y) {
        Due.is(how + ": meets", x.meets(), y.meets());
        for (int k = 0; k < 20; k++) {
            Due.is(how + ": meet " + k, x.meet(k, 0), y.meet(k, 0));
            Due.is(how + ": meet " + k, x.meet(k, 1), y.meet(k, 1));
        }
        for (int i = 0; i < 12; i++) {
            for (int j = 0; j < 12; j++) {
                Due.is(how + ": before " + i + " " + j, x.before(i, j), y.before(i, j));
                Due.is(how + ": way " + i + " " + j, x.way(i, j, 1), y.way(i, j, 1));
            }
        }
        for (int k = 1; k < 6; k++) {
            Due.is(how + ": small " + k, x.small(k), y.small(k));
        }
        Due.is(how + ": may", x.may(0), y.may(0));
        Due.is(how + ": least", x.least(), y.least());
        Due.is(how + ": mend", x.mend(), y.mend());
    }

    private static void orders(String how, OneCup x, OneCup y) {
        for (int i = 0; i < 12; i++) {
            for (int j = i + 1; j < 12; j++) {
                int got = y.could(i, j);
                Due.is(how + ": could " + i + " " + j, x.could(i, j), got);
                if (got != -2) {
                    Due.is(how + ": states", x.status(7), y.status(7));
                    Due.is(how + ": harm", x.harm(), y.harm());
                }
                if (got == 1) {
                    Due.is(how + ": shown", x.shown(1), y.shown(1));
                }
            }
        }
    }

    private static void allRuns(String how, OneCup x, OneCup y) {
        Due.is(how + ": ends", x.ends(), y.ends());
        Due.is(how + ": states", x.status(7), y.status(7));
        int bits = y.waits();
        Due.is(how + ": waits", x.waits(), bits);
        for (int k = 0; k < 20 && bits > 0; k++) {
            Due.is(how + ": led " + k, x.led(k), y.led(k));
        }
        Due.is(how + ": runs", x.runs(), y.runs());
        Due.is(how + ": stuck", x.stuck(), y.stuck());
        Due.is(how + ": join", x.join(), y.join());
    }

    /** A book that is gone back to has its own pairs, though others came in their places. */
    private static void books(String one, String two) {
        OneCup x = new OneCup();
        x.keep(0);
        x.join();
        Due.text(x, two);
        x.runs();
        x.join();
        x.keep(1);
        x.back(0);
        Due.text(x, one);
        x.runs();
        x.join();
        x.runs();
        x.join();
        x.back(1);
        OneCup y = new OneCup();
        y.join();
        Due.text(y, two);
        y.runs();
        y.join();
        Due.is("book: pairs", x.status(4), y.status(4));
        Due.is("book: logs", x.status(9), 2);
        for (int k = 0; k < 6; k++) {
            for (int what = 0; what < 6; what++) {
                Due.is("book: pair " + k + " " + what, x.joined(k, what), y.joined(k, what));
            }
        }
        Due.is("book: it came", x.join(), -1);
    }

    private static void counts(String one, String two) {
        OneCup x = fresh(one);
        x.row(0, 0, 2);
        x.write(0, 0, 9);
        x.run(0);
        int idle = x.status(3);
        x.keep(0);
        Due.text(x, two);
        x.runs();
        x.runs();
        Due.is("counts: runs", x.status(2), 4);
        Due.is("counts: numbers", x.status(3), 0);
        x.back(0);
        Due.is("counts: runs", x.status(2), 2);
        Due.is("counts: numbers", x.status(3), idle);
        Due.is("counts: hands", x.status(0), fresh(one).status(0));
    }
}
