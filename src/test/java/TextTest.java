/** Promises 1 to 5: a new object, the tape, the text and its faults. */
public final class TextTest {
    public static void main(String[] args) {
        newObject();
        tape();
        texts();
        faults();
        depths();
        manyCodes();
        aFaultLeavesAll();
        Due.close();
    }

    private static void newObject() {
        OneCup x = new OneCup();
        for (int what = 0; what <= 10; what++) {
            Due.is("new status " + what, x.status(what), what == 6 ? 31 : 0);
        }
        Due.is("new stuck", x.stuck(), 0);
        for (int c = 0; c < 8; c++) {
            Due.is("new cell", x.cell(c), 0);
        }
        Due.is("new act", x.act(0, 0), Due.NOTHING);
        Due.is("new fault 0", x.fault(0), 0);
        Due.is("new fault 1", x.fault(1), -1);
        Due.is("new fault 2", x.fault(2), -1);
        Due.is("new fault -1", x.fault(-1), -1);
        Due.is("new shown", x.shown(0), -1);
        Due.is("new led", x.led(0), -1);
        Due.is("new harm", x.harm(), -1);
        Due.is("new run", x.run(0), -6);
        Due.is("new runs", x.runs(), 0);
        Due.is("new join", x.join(), 0);
        Due.is("NONE", OneCup.NONE, -1);
    }

    private static void tape() {
        OneCup x = new OneCup();
        for (int k = 1; k <= 45; k++) {
            Due.is("feed " + k, x.feed(0x20202020, 0x0A0A0A0A, 0x20202020, 0x20202020, 0x20202020), 20 * k);
        }
        Due.is("feed beyond 900", x.feed(1, 2, 3, 4, 5), -1);
        Due.is("still 900", x.status(5), 900);
        Due.is("end 901", x.end(901), -1);
        Due.is("end -1", x.end(-1), -1);
        Due.is("end least int", x.end(Integer.MIN_VALUE), -1);
        Due.is("still 900", x.status(5), 900);
        Due.is("end 900", x.end(900), 900);
        Due.is("end 881", x.end(881), 881);
        Due.is("feed beyond 900", x.feed(1, 2, 3, 4, 5), -1);
        Due.is("end 880", x.end(880), 880);
        Due.is("feed to 900", x.feed(0x20202020, 0x20202020, 0x20202020, 0x20202020, 0x20202041), 900);
        Due.is("text", x.text(), -4);
        Due.is("its fault", x.fault(0), 1);
        Due.is("its place", x.fault(1), 899);
        Due.is("tape empty", x.status(5), 0);
        Due.is("end 0", x.end(0), 0);
        Due.is("end 1", x.end(1), -1);
        Due.is("feed again", x.feed(-1, 0, 0, 0, 0), 20);
        Due.is("text", x.text(), -4);
        Due.is("place of a high byte", x.fault(1), 0);
    }

    private static void good(String s, int hands) {
        OneCup x = new OneCup();
        Due.is("text " + s, Due.text(x, s), hands);
        Due.is("fault 0 of " + s, x.fault(0), 0);
        Due.is("fault 1 of " + s, x.fault(1), -1);
        Due.is("tape behind " + s, x.status(5), 0);
        Due.is("told by " + s, x.status(0), hands);
    }

    private static void bad(String s, int fault, int place) {
        OneCup x = new OneCup();
        Due.is("text " + s, Due.text(x, s), -4);
        Due.is("fault 0 of " + s, x.fault(0), fault);
        Due.is("fault 1 of " + s, x.fault(1), place);
        Due.is("fault 2 of " + s, x.fault(2), -1);
        Due.is("tape behind " + s, x.status(5), 0);
        Due.is("told by " + s, x.status(0), 0);
    }

    private static void texts() {
        good("", 0);
        good(" \n ", 0);
        good("hand 0 {}", 1);
        good("hand0{}hand5{}", 2);
        good("hand 5 { } hand 1 {} hand 4 {} hand 0 {} hand 3 {} hand 2 {}", 6);
        good("hand 00 { write a 000000000000000000999; }", 1);
        good("hand 0{read a;write b 0;move c d;turn e 999;take p;give q;take r;give s;send x;get y;send z;}", 1);
        good("hand 0 { start 0; wait 5; start 5; if f < 0 { } if g = 999 { read h; } times 2 { } times 9 {} gate {} }", 1);
        good("hand 1\n{\nwrite a5;turn b6;}", 1);
    }

    private static void faults() {
        bad("x", 1, 0);
        bad("hand", 1, 4);
        bad("hand 0", 1, 6);
        bad("hand 0 {", 1, 8);
        bad("hand 0 {  ", 1, 10);
        bad("hand 0 { } }", 1, 11);
        bad("hands 0 { }", 1, 0);
        bad("Hand 0 { }", 1, 0);
        bad("hand a { }", 1, 5);
        bad("hand 6 { }", 2, 5);
        bad("hand 99999999999999999999 { }", 2, 5);
        bad("hand 0 { } hand 0 { }", 2, 16);
        bad("hand 0 { } hand 0 oops", 2, 16);
        bad("hand 0 } ", 1, 7);
        bad("hand 0 { read i; }", 1, 14);
        bad("hand 0 { read ab; }", 1, 14);
        bad("hand 0 { read p; }", 1, 14);
        bad("hand 0 { read 5; }", 1, 14);
        bad("hand 0 { read; }", 1, 13);
        bad("hand 0 { read a }", 1, 16);
        bad("hand 0 { read a;; }", 1, 16);
        bad("hand 0 { read a b; }", 1, 16);
        bad("hand 0 { write a; }", 1, 16);
        bad("hand 0 { write a b; }", 1, 17);
        bad("hand 0 { write a 1000; }", 2, 17);
        bad("hand 0 { write a 4294967296; }", 2, 17);
        bad("hand 0 { move a; }", 1, 15);
        bad("hand 0 { turn a 1000; }", 2, 16);
        bad("hand 0 { turn a -1; }", 1, 16);
        bad("hand 0 { take a; }", 1, 14);
        bad("hand 0 { take t; }", 1, 14);
        bad("hand 0 { take o; }", 1, 14);
        bad("hand 0 { give x; }", 1, 14);
        bad("hand 0 { send p; }", 1, 14);
        bad("hand 0 { get w; }", 1, 13);
        bad("hand 0 { start 6; }", 2, 15);
        bad("hand 0 { start a; }", 1, 15);
        bad("hand 0 { wait 10; }", 2, 14);
        bad("hand 0 { if a > 1 { } }", 1, 14);
        bad("hand 0 { if a < 1000 { } }", 2, 16);
        bad("hand 0 { if a <= 1 { } }", 1, 15);
        bad("hand 0 { if a = 1 read a; }", 1, 18);
        bad("hand 0 { times 1 { } }", 2, 15);
        bad("hand 0 { times 0 { } }", 2, 15);
        bad("hand 0 { times 10 { } }", 2, 15);
        bad("hand 0 { times a { } }", 1, 15);
        bad("hand 0 { gate read a; }", 1, 14);
        bad("hand 0 { gate { read a; }", 1, 25);
        bad("hand 0 { hand 1 { } }", 1, 9);
        bad("hand 0 { } read a;", 1, 11);
        bad("hand 0 {\tread a; }", 1, 8);
        bad("hand 0 { read a;\r }", 1, 16);
        bad("hand 0 { } \0", 1, 11);
        bad("hand 0 { } \u00e9", 1, 11);
        bad("hand 0 { . }", 1, 9);
        // the first one by its place
        bad("hand 0 { write a 1000; read i; }", 2, 17);
        bad("hand 0 { read i; write a 1000; }", 1, 14);
    }

    private static void depths() {
        good("hand 0 { gate { if a = 0 { times 2 { gate { read a; } } } } }", 1);
        bad("hand 0 { gate { if a = 0 { times 2 { gate { gate { } } } } } }", 3, 49);
        bad("hand 0 { gate { gate { gate { gate { if a < 5 { } } } } } }", 3, 46);
        // of one place the least: there no { can stand
        bad("hand 0 { gate { gate { gate { gate { { } } } } } }", 1, 37);
        bad("hand 0 { gate { gate { gate { gate { times 1 { } } } } } }", 2, 43);
        good("hand 0 { gate { gate { gate { gate { } gate { } } gate { } } } gate { } }", 1);
    }

    private static void manyCodes() {
        good("hand 0 { times 6 { times 5 { turn a 1; turn b 1; } } }", 1);
        bad("hand 0 { times 6 { times 5 { turn a 1; turn b 1; } } read a; } hand 7", 3, 61);
        bad("hand 0 { times 9 { times 9 { times 9 { times 9 { read a; read a; } } } } }", 3, 73);
        // move has two, a gate has two, an if has one
        good("hand 0 { times 6 { move a b; move a b; gate { move c d; } if a = 1 { read a; } } }", 1);
        bad("hand 0 { times 6 { move a b; move a b; gate { move c d; } if a = 1 { read a; } } if a = 1 { } }", 3, 94);
        bad("hand 0 { times 8 { gate { times 2 { move a b; move b a; } } } }", 3, 62);
        good("hand 0 { times 9 { } times 9 { times 9 { } } }", 1);
        // sixty, and as many again
        bad("hand 0 { times 2 { times 6 { times 5 { turn a 1; turn b 1; } } } }", 3, 65);
        bad("hand 0 { times 6 { times 5 { turn a 1; turn b 1; } } times 2 { gate { } } }", 3, 74);
        // an earlier fault comes first
        bad("hand 0 { times 9 { times 9 { read a; } } read i; }", 1, 46);
    }

    private static void aFaultLeavesAll() {
        OneCup x = Due.ran("hand 0 { write a 7; take p; get x; }");
        Due.is("acts", x.status(1), 2);
        Due.is("text", Due.text(x, "hand 0 { write b 1; } hand 1 {"), -4);
        Due.is("fault", x.fault(0), 1);
        Due.is("told still", x.status(0), 1);
        Due.is("log still", x.status(1), 2);
        Due.is("cell still", x.cell(0), 7);
        Due.is("stuck still", x.stuck(), 1);
        Due.is("runs as before", x.runs(), 2);
        Due.is("cell b", x.cell(1), 0);
        Due.is("text of nothing", x.text(), 0);
        Due.is("fault gone", x.fault(0), 0);
        Due.is("place gone", x.fault(1), -1);
        Due.is("log empty", x.status(1), 0);
        Due.is("act gone", x.act(0, 0), Due.NOTHING);
        Due.is("runs still counted", x.status(2), 2);
        Due.is("no hand told", x.status(0), 0);
    }
}
