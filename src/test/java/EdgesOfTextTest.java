/** Promises 1 to 5 and what of Terms I a text meets: each boundary that is named has a test of its own. */
public final class EdgesOfTextTest {
    private static final int BLANKS = 0x20202020;
    private static final int[] FAR = {Integer.MIN_VALUE, Integer.MIN_VALUE + 1, -1000, 1000, Integer.MAX_VALUE};

    public static void main(String[] args) {
        newHasNoText();
        newHasAnEmptyLog();
        newHasNothingElse();
        newOnesAreApart();
        tapeJustFull();
        tapeTooFull();
        tapeOfOddLength();
        noneComeWhereTooMany();
        highestFirst();
        eachByteHasItsPlace();
        endOfNoneAndAll();
        endRefused();
        endKeepsTheFirstAlone();
        emptyTapeIsAText();
        fullTapeIsAText();
        howManyHands();
        textEmptiesTapeAndLog();
        textLeavesTheRest();
        faultLeavesTheRest();
        faultOfTheLatestText();
        faultOfAnotherWhat();
        numbersBounds();
        numbersTooLongForAnInt();
        timesBounds();
        handsBounds();
        lettersBounds();
        blanksAndNone();
        longestTokens();
        endsPlace();
        handToldAlready();
        bracesWithinFour();
        leastOfOnePlace();
        codesUpToSixty();
        codesOfEachStep();
        placesOfCodes();
        Due.close();
    }

    // ---- 1 ----

    private static void newHasNoText() {
        OneCup x = new OneCup();
        Due.is("1: no hand told", x.status(0), 0);
        Due.is("1: no steps", x.runs(), 0);
        Due.is("1: one end of no runs", x.ends(), 1);
        Due.is("1: none waits", x.waits(), 0);
    }

    private static void newHasAnEmptyLog() {
        OneCup x = new OneCup();
        Due.is("1: acts", x.status(1), 0);
        for (int what = 0; what < 7; what++) {
            Due.is("1: act 0", x.act(0, what), Due.NOTHING);
        }
        for (int c = 0; c < 8; c++) {
            Due.is("1: cell", x.cell(c), 0);
            Due.is("1: first", x.first(c), -1);
            Due.is("1: always", x.always(c), 15);
        }
        Due.is("1: stuck", x.stuck(), 0);
        Due.is("1: before", x.before(0, 0), -2);
        Due.is("1: way", x.way(0, 0, 0), -2);
        Due.is("1: could", x.could(0, 1), -2);
        Due.is("1: meets", x.meets(), 0);
        Due.is("1: meet", x.meet(0, 0), Due.NOTHING);
        Due.is("1: small", x.small(40), 0);
        Due.is("1: habit", x.habit(), 0);
        Due.is("1: ring", x.ring(), 0);
        Due.is("1: may", x.may(0), 0);
        Due.is("1: least", x.least(), 0);
        Due.is("1: mend", x.mend(), 0);
        Due.is("1: gates", x.gates(), 0);
        Due.is("1: blink", x.blink(0), -1);
    }

    private static void newHasNothingElse() {
        OneCup x = new OneCup();
        Due.is("1: tape", x.status(5), 0);
        for (int slot = 0; slot < 4; slot++) {
            Due.is("1: slot " + slot, x.run(slot), -6);
        }
        for (int k = 0; k < 3; k++) {
            Due.is("1: image " + k, x.back(k), -6);
        }
        Due.is("1: pairs", x.status(4), 0);
        Due.is("1: logs", x.status(9), 0);
        Due.is("1: shown", x.shown(0), -1);
        Due.is("1: harm", x.harm(), -1);
        Due.is("1: led", x.led(0), -1);
        Due.is("1: laws", x.status(6), 31);
        Due.is("1: refusals", x.status(10), 0);
    }

    private static void newOnesAreApart() {
        OneCup x = Due.ran("hand 0 { start 1; write a 7; } hand 1 { read a; }");
        Due.is("1: join", x.join(), 1);
        Due.is("1: keep", x.keep(0), 0);
        Due.is("1: row", x.row(0, 0, 5), 0);
        Due.is("1: could", x.could(1, 2), 1);
        Due.is("1: law", x.law(3, false), 1);
        OneCup y = new OneCup();
        for (int what = 0; what <= 10; what++) {
            Due.is("1: status " + what + " of another", y.status(what), what == 6 ? 31 : 0);
        }
        Due.is("1: no acts of another's text", y.runs(), 0);
        Due.is("1: no image of another", y.back(0), -6);
        Due.is("1: no row of another", y.run(0), -6);
        Due.is("1: no order of another", y.shown(0), -1);
    }

    // ---- 2 ----

    private static OneCup blanks(int feeds) {
        OneCup x = new OneCup();
        for (int k = 1; k <= feeds; k++) {
            Due.is("2: how many it has", x.feed(BLANKS, BLANKS, BLANKS, BLANKS, BLANKS), 20 * k);
        }
        return x;
    }

    private static void tapeJustFull() {
        OneCup x = blanks(44);
        Due.is("2: just 900", x.feed(BLANKS, BLANKS, BLANKS, BLANKS, BLANKS), 900);
        Due.is("2: tape", x.status(5), 900);
    }

    private static void tapeTooFull() {
        OneCup x = blanks(45);
        Due.is("2: more than 900", x.feed(0, 0, 0, 0, 0), -1);
        Due.is("2: more than 900", x.feed(-1, -1, -1, -1, -1), -1);
        Due.is("2: tape", x.status(5), 900);
        Due.is("2: no refusal told by -2", x.status(10), 0);
    }

    private static void tapeOfOddLength() {
        OneCup x = blanks(45);
        Due.is("2: cut", x.end(881), 881);
        Due.is("2: would have 901", x.feed(BLANKS, BLANKS, BLANKS, BLANKS, BLANKS), -1);
        Due.is("2: tape", x.status(5), 881);
        Due.is("2: cut", x.end(880), 880);
        Due.is("2: has 900", x.feed(BLANKS, BLANKS, BLANKS, BLANKS, BLANKS), 900);
        Due.is("2: cut", x.end(879), 879);
        Due.is("2: has 899", x.feed(BLANKS, BLANKS, BLANKS, BLANKS, BLANKS), 899);
        Due.is("2: would have 919", x.feed(BLANKS, BLANKS, BLANKS, BLANKS, BLANKS), -1);
    }

    private static void noneComeWhereTooMany() {
        OneCup x = blanks(45);
        Due.is("2: cut", x.end(890), 890);
        Due.is("2: not even ten", x.feed(0x78787878, 0x78787878, 0x78787878, 0x78787878, 0x78787878), -1);
        Due.is("2: blanks alone", x.text(), 0);
    }

    private static void highestFirst() {
        OneCup x = new OneCup();
        // "hand 0 { write a 5;}"
        Due.is("2: feed", x.feed(0x68616E64, 0x2030207B, 0x20777269, 0x74652061, 0x20353B7D), 20);
        Due.is("2: text", x.text(), 1);
        Due.is("2: run", x.runs(), 1);
        Due.is("2: cell", x.cell(0), 5);
        Due.is("2: place", x.act(0, 4), 9);
    }

    /** Bytes of 0 and of 255 are no tokens; each of the twenty is told at its place. */
    private static void eachByteHasItsPlace() {
        for (int k = 0; k < 20; k++) {
            int[] high = {BLANKS, BLANKS, BLANKS, BLANKS, BLANKS};
            int[] zero = high.clone();
            int shift = 24 - 8 * (k % 4);
            high[k / 4] |= 255 << shift;
            zero[k / 4] &= ~(255 << shift);
            OneCup x = new OneCup();
            x.feed(high[0], high[1], high[2], high[3], high[4]);
            Due.is("2: byte 255", x.text(), -4);
            Due.is("2: place of byte " + k, x.fault(1), k);
            x.feed(zero[0], zero[1], zero[2], zero[3], zero[4]);
            Due.is("2: byte 0", x.text(), -4);
            Due.is("2: place of byte " + k, x.fault(1), k);
        }
    }

    // ---- 3 ----

    private static void endOfNoneAndAll() {
        OneCup x = new OneCup();
        Due.is("3: none of none", x.end(0), 0);
        Due.is("3: feed", x.feed(BLANKS, BLANKS, BLANKS, BLANKS, BLANKS), 20);
        Due.is("3: all", x.end(20), 20);
        Due.is("3: tape", x.status(5), 20);
        Due.is("3: one", x.end(1), 1);
        Due.is("3: tape", x.status(5), 1);
        Due.is("3: none", x.end(0), 0);
        Due.is("3: tape", x.status(5), 0);
    }

    private static void endRefused() {
        OneCup x = new OneCup();
        Due.is("3: not so many", x.end(1), -1);
        Due.is("3: feed", x.feed(BLANKS, BLANKS, BLANKS, BLANKS, BLANKS), 20);
        Due.is("3: not so many", x.end(21), -1);
        Due.is("3: below 0", x.end(-1), -1);
        for (int n : FAR) {
            Due.is("3: end " + n, x.end(n), -1);
        }
        Due.is("3: nothing happens", x.status(5), 20);
        Due.is("3: no refusal told by -2", x.status(10), 0);
        Due.is("3: cut", x.end(7), 7);
        Due.is("3: what was cut is no more", x.end(8), -1);
    }

    private static void endKeepsTheFirstAlone() {
        OneCup x = new OneCup();
        Due.feed(x, "hand 0 { write a 5; }oops oops oops");
        Due.is("3: end", x.end(21), 21);
        Due.is("3: text", x.text(), 1);
        Due.feed(x, "hand 0 { write a 55");
        Due.is("3: end", x.end(18), 18);
        Due.feed(x, "7; }");
        Due.is("3: comes behind what is left", x.text(), 1);
        x.runs();
        Due.is("3: 57", x.cell(0), 57);
    }

    // ---- 4 ----

    private static void emptyTapeIsAText() {
        OneCup x = Due.ran("hand 0 { write a 5; get x; }");
        Due.is("4: no tape", x.text(), 0);
        Due.is("4: no hands", x.status(0), 0);
        Due.is("4: no log", x.status(1), 0);
        Due.is("4: no steps", x.runs(), 0);
        Due.is("4: none waits", x.stuck(), 0);
    }

    private static void fullTapeIsAText() {
        StringBuilder s = new StringBuilder("hand 0 { write a 5;");
        while (s.length() < 899) {
            s.append(s.length() % 2 == 0 ? ' ' : '\n');
        }
        OneCup x = new OneCup();
        Due.is("4: a text of 900", Due.text(x, s + "}"), 1);
        Due.is("4: acts", x.runs(), 1);
        Due.is("4: a text of 900 without its end", Due.text(x, s + " "), -4);
        Due.is("4: place", x.fault(1), 900);
        Due.is("4: a token at 899", Due.text(x, s + ";"), -4);
        Due.is("4: place", x.fault(1), 899);
    }

    private static void howManyHands() {
        Due.is("4: one without steps", Due.told("hand 5 {}").status(0), 1);
        OneCup x = new OneCup();
        StringBuilder s = new StringBuilder();
        for (int h = 5; h >= 0; h--) {
            s.append("hand ").append(h).append("{}");
            Due.is("4: hands", Due.text(x, s.toString()), 6 - h);
            Due.is("4: status 0", x.status(0), 6 - h);
        }
    }

    private static void textEmptiesTapeAndLog() {
        OneCup x = Due.ran("hand 0 { start 1; write a 5; gate { } } hand 1 { read a; get x; }");
        Due.is("4: text", Due.text(x, "hand 0 { write b 1; } hand 2 {}"), 2);
        Due.is("4: tape", x.status(5), 0);
        Due.is("4: acts", x.status(1), 0);
        Due.is("4: act", x.act(0, 0), Due.NOTHING);
        Due.is("4: meets", x.meets(), 0);
        Due.is("4: gates", x.gates(), 0);
        Due.is("4: before", x.before(0, 1), -2);
        Due.is("4: always", x.always(0), 15);
        Due.is("4: cell a", x.cell(0), 0);
        Due.is("4: stuck", x.stuck(), 0);
        Due.is("4: the new text alone", x.runs(), 1);
        Due.is("4: cell a", x.cell(0), 0);
        Due.is("4: cell b", x.cell(1), 1);
    }

    /** Laws, book, images, rows and the counts are no part of a text. */
    private static void textLeavesTheRest() {
        OneCup x = Due.told("hand 0 { start 1; write a 5; } hand 1 { read a; }");
        Due.is("4: run", Due.run(x, 9, 0, 0, 1), 3);
        x.law(1, false);
        Due.is("4: join", x.join(), 1);
        Due.is("4: keep", x.keep(1), 0);
        Due.is("4: text", Due.text(x, "hand 0 { }"), 1);
        Due.is("4: runs", x.status(2), 1);
        Due.is("4: did nothing", x.status(3), 1);
        Due.is("4: pairs", x.status(4), 1);
        Due.is("4: laws", x.status(6), 29);
        Due.is("4: rows", x.status(8), 1);
        Due.is("4: logs", x.status(9), 1);
        Due.is("4: pair", x.joined(0, 3), 1);
        Due.is("4: row", x.run(0), 0);
        Due.is("4: numbers", x.status(3), 4);
        Due.is("4: image", x.back(1), 0);
        Due.is("4: its log", x.status(1), 3);
    }

    private static void faultLeavesTheRest() {
        OneCup x = Due.told("hand 0 { start 1; write a 5; } hand 1 { read a; get x; }");
        Due.is("4: run", Due.run(x, 9, 0, 0, 1), 3);
        Due.is("4: could", x.could(1, 2), 1);
        Due.is("4: waits", x.waits(), 2);
        Due.is("4: join", x.join(), 1);
        int states = x.status(7);
        Due.is("4: a fault", Due.text(x, "hand 0 { } hand 1 { } hand 2 { } }"), -4);
        Due.is("4: tape", x.status(5), 0);
        Due.row("4: status", new int[] {x.status(0), x.status(1), x.status(2), x.status(3), x.status(4), x.status(6), x.status(7), x.status(8),
            x.status(9), x.status(10)}, 2, 3, 1, 1, 1, 31, states, 1, 1, 0);
        Due.is("4: act", x.act(1, 4), 18);
        Due.is("4: cell", x.cell(0), 5);
        Due.is("4: stuck", x.stuck(), 2);
        Due.is("4: meets", x.meets(), 1);
        Due.is("4: shown", x.shown(0), 0);
        Due.is("4: harm", x.harm(), 0);
        Due.is("4: led", x.led(1), 0);
        Due.is("4: this log came", x.join(), -1);
        Due.is("4: the text", x.runs(), 3);
    }

    // ---- 5 ----

    private static void faultOfTheLatestText() {
        OneCup x = new OneCup();
        Due.is("5: ahead of any 0", x.fault(0), 0);
        Due.is("5: ahead of any 1", x.fault(1), -1);
        Due.feed(x, "hand 0 { write a 1000; }");
        Due.is("5: still ahead of any", x.fault(1), -1);
        Due.is("5: text", x.text(), -4);
        Due.row("5: the first", new int[] {x.fault(0), x.fault(1)}, 2, 17);
        Due.is("5: text", Due.text(x, "hand 0 ; }"), -4);
        Due.row("5: the second", new int[] {x.fault(0), x.fault(1)}, 1, 7);
        Due.feed(x, "hand 0 { }");
        Due.row("5: the second still", new int[] {x.fault(0), x.fault(1)}, 1, 7);
        Due.is("5: text", x.text(), 1);
        Due.row("5: none", new int[] {x.fault(0), x.fault(1)}, 0, -1);
        Due.is("5: text", Due.text(x, "?"), -4);
        Due.row("5: at the first byte", new int[] {x.fault(0), x.fault(1)}, 1, 0);
        Due.is("5: text of nothing", x.text(), 0);
        Due.row("5: none", new int[] {x.fault(0), x.fault(1)}, 0, -1);
    }

    private static void faultOfAnotherWhat() {
        OneCup x = new OneCup();
        for (int round = 0; round < 3; round++) {
            Due.is("5: what 2", x.fault(2), -1);
            Due.is("5: what -1", x.fault(-1), -1);
            for (int what : FAR) {
                Due.is("5: what " + what, x.fault(what), -1);
            }
            Due.is("5: text", Due.text(x, round == 0 ? "hand 0 { } oops" : ""), round == 0 ? -4 : 0);
        }
        Due.is("5: no refusal told by -2", x.status(10), 0);
    }

    // ---- Terms I ----

    private static void good(String s) {
        OneCup x = new OneCup();
        Due.is("text " + s, Due.text(x, s) >= 0 ? 1 : 0, 1);
        Due.row("fault of " + s, new int[] {x.fault(0), x.fault(1)}, 0, -1);
    }

    private static void bad(String s, int fault, int place) {
        OneCup x = new OneCup();
        Due.is("text " + s, Due.text(x, s), -4);
        Due.row("fault of " + s, new int[] {x.fault(0), x.fault(1)}, fault, place);
    }

    private static void numbersBounds() {
        for (String step : new String[] {"write a ", "turn h ", "if a < ", "if a = "}) {
            String till = step.startsWith("if") ? " { } }" : "; }";
            int at = 9 + step.length();
            good("hand 0 { " + step + "0" + till);
            good("hand 0 { " + step + "999" + till);
            bad("hand 0 { " + step + "1000" + till, 2, at);
            bad("hand 0 { " + step + "-1" + till, 1, at);
            bad("hand 0 { " + step + "a" + till, 1, at);
        }
        OneCup x = Due.ran("hand 0 { write a 999; write b 0; write c 000000000000000000000000000999; write d 00; }");
        Due.row("I: numbers", new int[] {x.cell(0), x.cell(1), x.cell(2), x.cell(3)}, 999, 0, 999, 0);
    }

    /** Numbers that would be 1 or 5 again in 32 or 64 bits. */
    private static void numbersTooLongForAnInt() {
        bad("hand 0 { write a 4294967297; }", 2, 17);
        bad("hand 0 { write a 18446744073709551617; }", 2, 17);
        bad("hand 0 { write a 2147483648; }", 2, 17);
        bad("hand 4294967297 { }", 2, 5);
        bad("hand 0 { times 4294967301 { } }", 2, 15);
        bad("hand 0 { start 18446744073709551617; }", 2, 15);
        bad("hand 0 { write a 10000000000000000000000000000000000000000000000000000000000000000; }", 2, 17);
    }

    private static void timesBounds() {
        good("hand 0 { times 2 { } }");
        good("hand 0 { times 9 { } }");
        good("hand 0 { times 02 { } }");
        bad("hand 0 { times 1 { } }", 2, 15);
        bad("hand 0 { times 10 { } }", 2, 15);
        bad("hand 0 { times 0 { } }", 2, 15);
        Due.is("I: twice", Due.ran("hand 0 { times 2 { read a; } }").status(1), 2);
        Due.is("I: nine times", Due.ran("hand 0 { times 9 { read a; } }").status(1), 9);
    }

    private static void handsBounds() {
        good("hand 0 { start 0; wait 5; wait 0; start 5; }");
        good("hand 5 { }");
        bad("hand 6 { }", 2, 5);
        bad("hand 0 { start 6; }", 2, 15);
        bad("hand 0 { wait 6; }", 2, 14);
    }

    private static void lettersBounds() {
        for (String step : new String[] {"read ", "write ", "turn ", "if ", "move ", "move a "}) {
            String till = step.equals("read ") || step.equals("move a ") ? "; }" : step.equals("move ") ? " a; }"
                : step.equals("if ") ? " = 1 { } }" : " 1; }";
            good("hand 0 { " + step + "a" + till);
            good("hand 0 { " + step + "h" + till);
            bad("hand 0 { " + step + "i" + till, 1, 9 + step.length());
            bad("hand 0 { " + step + "aa" + till, 1, 9 + step.length());
        }
        for (String step : new String[] {"take ", "give "}) {
            good("hand 0 { " + step + "p; }");
            good("hand 0 { " + step + "s; }");
            bad("hand 0 { " + step + "o; }", 1, 14);
            bad("hand 0 { " + step + "t; }", 1, 14);
        }
        for (String step : new String[] {"send ", "get "}) {
            good("hand 0 { " + step + "x; }");
            good("hand 0 { " + step + "z; }");
            bad("hand 0 { " + step + "w; }", 1, 9 + step.length());
            bad("hand 0 { " + step + "{; }", 1, 9 + step.length());
        }
    }

    private static void blanksAndNone() {
        good("\n hand\n\n0\n{\nread\na\n;\n}\n ");
        for (char none : new char[] {0, 9, 11, 12, 13, 31, 33, '/', ':', '>', '@', 'A', 'Z', '[', '`', '|', '~', 127, 128, 160, 255}) {
            bad("hand 0 { " + none + "read a; }", 1, 9);
        }
        bad(" \n \n!", 1, 4);
    }

    private static void longestTokens() {
        good("hand0{write a5;turn b6;if a<7{}if a=8{}times9{}start1;gate{}}hand1{}");
        bad("hand 0 { reada; }", 1, 9);
        bad("hand 0 { readread a; }", 1, 9);
        bad("hand 0 { rea d a; }", 1, 9);
        bad("hand 0 { write a 1 2; }", 1, 19);
        bad("hand 0 { write a 5a; }", 1, 18);
        bad("hand 0 { write a5 5; }", 1, 18);
        bad("handhand 0 { }", 1, 0);
        bad("hand 0 { if a == 1 { } }", 1, 15);
    }

    private static void endsPlace() {
        bad("hand", 1, 4);
        bad("hand\n\n", 1, 6);
        bad("hand 0 { write a 10", 1, 19);
        bad("hand 0 { gate { } ", 1, 18);
        bad("hand 0 { times", 1, 14);
        // the end stands where a number might be too many, but is none
        bad("hand 0 { write a ", 1, 17);
    }

    private static void handToldAlready() {
        bad("hand 3 { } hand 3 { }", 2, 16);
        bad("hand 3 { } hand 03 { }", 2, 16);
        bad("hand 0 { } hand 1 { } hand 2 { } hand 3 { } hand 4 { } hand 5 { } hand 0 { }", 2, 71);
        bad("hand 0 { } hand 1 { } hand 2 { } hand 3 { } hand 4 { } hand 5 { } hand 6 { }", 2, 71);
    }

    private static void bracesWithinFour() {
        for (String step : new String[] {"gate", "times 2", "if a = 0"}) {
            good("hand 0 { " + (step + " { ").repeat(4) + "read a; " + "} ".repeat(5));
            bad("hand 0 { " + (step + " { ").repeat(5) + "read a; " + "} ".repeat(6), 3, 9 + 4 * (step.length() + 3) + step.length() + 1);
        }
        good("hand 0 { " + "gate { ".repeat(4) + "} gate { ".repeat(3) + "} ".repeat(5));
        bad("hand 0 { " + "gate { ".repeat(4) + "} gate { gate { ", 3, 51);
        good("hand 0 { gate { gate { gate { gate { } } } } } hand 1 { gate { gate { gate { gate { } } } } }");
    }

    private static void leastOfOnePlace() {
        String four = "hand 0 { " + "gate { ".repeat(4);
        bad(four + "{ ", 1, 37);
        bad(four + "times 2 gate { ", 1, 45);
        bad(four + "times 10 { ", 2, 43);
        bad(four + "if a { ", 1, 42);
        // no } can stand there, however many codes there are
        bad("hand 0 { times 9 { times 9 { read a; } } write a }", 1, 49);
    }

    private static void codesUpToSixty() {
        StringBuilder s = new StringBuilder("hand 0 { ");
        for (int k = 0; k < 59; k++) {
            s.append("read a;");
        }
        good(s + " }");
        good(s + "read b; }");
        OneCup x = Due.ran(s + "read b; }");
        Due.is("I: sixty acts", x.status(1), 60);
        bad(s + "read b; read c; }", 3, s.length() + 16);
        bad(s + "read b; write c 1000; }", 2, s.length() + 16);
        bad(s + "read b; read c; ", 1, s.length() + 16);
        bad(s + "move b c; }", 3, s.length() + 10);
        bad(s + "gate { } }", 3, s.length() + 9);
        bad("hand 1 { times 9 { times 7 { read a; } } } " + s + " }", 3, 41);
        // of each hand alone
        good("hand 5 { times 6 { times 5 { read a; read b; } } } hand 4 { times 6 { times 5 { read a; read b; } } }"
            + " hand 3 { times 6 { times 5 { read a; read b; } } }");
        // far too many, but at the hand's } alone
        bad("hand 0 { " + "times 9 { ".repeat(4) + "move a b; ".repeat(40) + "} } } } }", 3, 9 + 40 + 400 + 8);
    }

    private static void codesOfEachStep() {
        String most = "hand 0 { times 6 { times 9 { read a; } } ";
        // 54 so far
        good(most + "move a b; move c d; move e f; }");
        bad(most + "move a b; move c d; move e f; read a; }", 3, most.length() + 38);
        good(most + "gate { gate { gate { } } } }");
        bad(most + "gate { gate { gate { if a = 0 { } } } } }", 3, most.length() + 40);
        good(most + "if a = 0 { if b < 1 { if c = 2 { read a; read b; read c; } } } }");
        bad(most + "if a = 0 { if b < 1 { if c = 2 { move a b; move b c; } } } }", 3, most.length() + 59);
        good(most + "times 3 { move a b; } }");
        bad(most + "times 7 { read a; } }", 3, most.length() + 20);
        good(most + "times 9 { times 9 { times 9 { } } } times 6 { start 1; } }");
    }

    private static void placesOfCodes() {
        OneCup x = Due.ran("hand 0 {\n move a b; gate { if a = 0 { times 2 { turn c 1; } } } }");
        int[] due = {10, 10, 20, 27, 48, 48, 20};
        for (int i = 0; i < due.length; i++) {
            Due.is("I: place of act " + i, x.act(i, 4), x.status(1) == due.length ? due[i] : -1);
        }
    }
}
