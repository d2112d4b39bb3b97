/** Promises 34 to 39, and an object's 512 calls: each boundary that is named has a test of its own. */
public final class EdgesOfRowTest {
    private static final int[] FAR = {Integer.MIN_VALUE, -1000, -2, -1, 1000, Integer.MAX_VALUE};
    private static final String RACE = "hand 0 { start 1; write a 1; write h 1; } hand 1 { read h; read a; }";
    private static final String TURNS = "hand 0 { start 1; start 2; start 3; times 9 { times 5 { turn a 1; } } } hand 1 { times 9 { times 6 { turn b 1; } } }"
        + " hand 2 { times 9 { times 6 { turn c 1; } } } hand 3 { times 9 { times 6 { turn d 1; } } }";

    public static void main(String[] args) {
        statusOfNone();
        statusThreeOfTheLatest();
        statusSixOfAll();
        statusEightOfAll();
        statusTenCountsEach();
        noSuchImage();
        imageOfNothing();
        imageOfANewOne();
        imageInPlaceOfAnother();
        imageStaysAsItWas();
        imageOfAll();
        threeImages();
        bookOfAnImage();
        noSuchRow();
        rowBelowNone();
        rowOfNoneAndOfSixty();
        rowInPlaceOfAnother();
        noSuchNumber();
        firstAndLastNumber();
        cutToWidth();
        wideNumbersAreNoHands();
        pasteWithoutSlots();
        pasteOfNothing();
        pasteOfUnlikeWidths();
        pasteBeyond();
        pasteOfNone();
        pasteOfAll();
        pasteOntoItself();
        firstRefusalFirst();
        allCallsOfAnObject();
        Due.close();
    }

    // ---- 34 ----

    private static void statusOfNone() {
        OneCup x = Due.ran(RACE);
        Due.is("34: what 10", x.status(10), 0);
        Due.is("34: what 11", x.status(11), -1);
        for (int what : FAR) {
            Due.is("34: what " + what, x.status(what), -1);
        }
        Due.is("34: no refusal told by -2", x.status(10), 0);
    }

    private static void statusThreeOfTheLatest() {
        OneCup x = Due.told("hand 0 { give p; read a; } hand 1 { }");
        Due.is("34: run", Due.run(x, 1, 1, 1), 1);
        Due.is("34: all of them", x.status(3), 3);
        Due.is("34: run", Due.run(x, 0, 0, 0, 1), 1);
        Due.is("34: gone by, done, none left, not started", x.status(3), 2);
        Due.is("34: no slot", x.run(4), -2);
        Due.is("34: nothing", x.run(2), -6);
        Due.is("34: of the latest run still", x.status(3), 2);
        Due.is("34: a text is no run", x.text(), 0);
        Due.is("34: of the latest run still", x.status(3), 2);
        Due.is("34: a run without a row", x.runs(), 0);
        Due.is("34: no numbers", x.status(3), 0);
    }

    private static void statusSixOfAll() {
        OneCup x = new OneCup();
        for (int set = 0; set < 32; set++) {
            for (int law = 0; law < 5; law++) {
                x.law(law, (set >> law & 1) != 0);
            }
            Due.is("34: laws", x.status(6), set);
        }
    }

    private static void statusEightOfAll() {
        OneCup x = new OneCup();
        for (int slot = 3; slot >= 0; slot--) {
            Due.is("34: row", x.row(slot, 0, slot == 2 ? 0 : 60), 0);
            Due.is("34: slots", x.status(8), 4 - slot);
            Due.is("34: in place of another", x.row(slot, 3, 1), 0);
            Due.is("34: slots", x.status(8), 4 - slot);
        }
        Due.is("34: refused", x.row(4, 0, 0) + x.row(0, 0, -1) + x.row(0, 0, 61), -2 - 3 - 2);
        Due.is("34: slots", x.status(8), 4);
    }

    /** Each call that tells -2 when nothing is there, and none of those that tell of it otherwise. */
    private static void statusTenCountsEach() {
        OneCup x = new OneCup();
        int[] told = {x.run(4), x.law(5, true), x.before(0, 0), x.way(0, 0, 0), x.first(8), x.small(0), x.could(0, 1), x.always(8), x.may(128),
            x.keep(3), x.back(3), x.row(4, 0, 0), x.row(0, 4, 0), x.row(0, 0, 61), x.write(4, 0, 0), x.paste(4, 0, 0, 0, 0)};
        for (int got : told) {
            Due.is("34: told -2", got, -2);
        }
        Due.is("34: how many", x.status(10), told.length);
        int[] others = {x.end(1), x.fault(2), x.run(0), x.act(0, 0), x.cell(8), x.meet(0, 0), x.first(0), x.shown(0), x.harm(), x.led(0), x.blink(0),
            x.joined(0, 0), x.status(11), x.back(0), x.row(0, 0, -1), x.write(0, 0, 0), x.paste(0, 0, 0, 0, 0)};
        for (int got : others) {
            Due.is("34: below 0, but not -2", got < 0 && got != -2 ? 1 : 0, 1);
        }
        Due.is("34: as many", x.status(10), told.length);
        x.keep(0);
        x.back(9);
        x.back(0);
        Due.is("34: no image takes them back", x.status(10), told.length + 1);
    }

    // ---- 35, 36 ----

    private static void noSuchImage() {
        OneCup x = Due.ran(RACE);
        Due.is("35: image 3", x.keep(3), -2);
        Due.is("36: image 3", x.back(3), -2);
        for (int k : FAR) {
            Due.is("35: image " + k, x.keep(k), -2);
            Due.is("36: image " + k, x.back(k), -2);
        }
        Due.is("35: refusals", x.status(10), 2 + 2 * FAR.length);
        Due.is("36: the log stays", x.status(1), 5);
        Due.is("35: nothing kept", x.back(0), -6);
    }

    private static void imageOfNothing() {
        OneCup x = Due.ran(RACE);
        Due.is("36: could", x.could(1, 3), 1);
        Due.is("35: keep", x.keep(1), 0);
        Due.is("36: image 0", x.back(0), -6);
        Due.is("36: image 2", x.back(2), -6);
        Due.is("36: the log stays", x.status(1), 5);
        Due.is("36: its harm stays", x.harm(), 0);
        Due.is("36: no refusal", x.status(10), 0);
    }

    private static void imageOfANewOne() {
        OneCup x = new OneCup();
        Due.is("35: keep", x.keep(2), 0);
        Due.is("36: text", Due.text(x, RACE), 2);
        x.runs();
        x.join();
        x.law(0, false);
        Due.is("36: back", x.back(2), 0);
        for (int what : new int[] {0, 1, 2, 3, 4, 9}) {
            Due.is("36: status " + what, x.status(what), 0);
        }
        Due.is("36: laws", x.status(6), 31);
        Due.is("36: no steps", x.runs(), 0);
    }

    private static void imageInPlaceOfAnother() {
        OneCup x = Due.ran(RACE);
        Due.is("35: keep", x.keep(0), 0);
        Due.is("35: text", Due.text(x, "hand 0 { write c 3; }"), 1);
        x.runs();
        Due.is("35: in its place", x.keep(0), 0);
        x.text();
        Due.is("36: back", x.back(0), 0);
        Due.is("36: the latter", x.cell(2), 3);
        Due.is("36: hands", x.status(0), 1);
    }

    private static void imageStaysAsItWas() {
        OneCup x = Due.ran(RACE);
        Due.is("35: keep", x.keep(0), 0);
        for (int round = 0; round < 3; round++) {
            Due.is("36: back", x.back(0), 0);
            Due.row("36: as it was", new int[] {x.status(0), x.status(1), x.status(2), x.status(4), x.status(6), x.status(9), x.cell(7), x.meets()},
                2, 5, 1, 0, 31, 0, 1, 2);
            x.join();
            x.law(round, false);
            x.runs();
            Due.is("36: text", Due.text(x, "hand 1 { read b; }"), 1);
        }
    }

    private static void imageOfAll() {
        OneCup x = Due.told("hand 0 { start 1; take p; write a 7; } hand 1 { gate { read a; take p; } }");
        Due.is("35: run", Due.run(x, 5, 0, 0, 0, 1, 1), 5);
        Due.is("35: law", x.law(1, false), 1);
        Due.is("35: law", x.law(2, false), 1);
        Due.is("35: join", x.join(), 1);
        Due.is("35: feed", x.feed(0x20202020, 0x20202020, 0x20202020, 0x20202020, 0x20202020), 20);
        Due.is("35: keep", x.keep(1), 0);
        Due.is("35: the tape stays", x.status(5), 20);
        Due.is("35: text", x.text(), 0);
        x.runs();
        x.law(1, true);
        x.law(4, false);
        x.join();
        Due.is("36: back", x.back(1), 0);
        Due.row("36: status", new int[] {x.status(0), x.status(1), x.status(2), x.status(3), x.status(4), x.status(5), x.status(6), x.status(8),
            x.status(9), x.status(10)}, 2, 5, 1, 1, 1, 0, 25, 1, 1, 0);
        int[][] acts = {{0, 7, 1, 0, 9, 0, 0}, {0, 3, 0, 0, 18, 1, 1}, {0, 1, 0, 7, 26, 2, 1}, {1, 9, 0, 0, 48, 0, 0}, {1, 0, 0, 7, 55, 1, 0}};
        for (int i = 0; i < acts.length; i++) {
            for (int what = 0; what < 7; what++) {
                Due.is("36: act " + i + " " + what, x.act(i, what), acts[i][what]);
            }
        }
        Due.row("36: behind the run", new int[] {x.cell(0), x.stuck(), x.gates(), x.meets(), x.habit()}, 7, 2, 1, 1, 1);
        Due.row("36: pair", new int[] {x.joined(0, 0), x.joined(0, 1), x.joined(0, 2), x.joined(0, 3), x.joined(0, 4), x.joined(0, 5)},
            26, 55, 0, 1, 0, 0);
        Due.is("36: it came", x.join(), -1);
        Due.is("36: the text", x.ends(), 2);
    }

    private static void threeImages() {
        OneCup x = new OneCup();
        for (int k = 0; k < 3; k++) {
            Due.is("35: text", Due.text(x, "hand 0 { write a " + (k + 5) + "; }"), 1);
            x.runs();
            Due.is("35: keep", x.keep(k), 0);
        }
        for (int k = 2; k >= 0; k--) {
            Due.is("36: back", x.back(k), 0);
            Due.is("36: cell", x.cell(0), k + 5);
            Due.is("36: runs", x.status(2), k + 1);
        }
        Due.is("35: one into another", x.keep(2), 0);
        Due.is("36: back", x.back(1), 0);
        Due.is("36: back", x.back(2), 0);
        Due.is("36: cell", x.cell(0), 5);
    }

    private static void bookOfAnImage() {
        OneCup x = Due.ran("hand 0 { start 1; " + "write a 1;".repeat(10) + " } hand 1 { " + "write a 1;".repeat(10) + " }");
        Due.is("35: an empty book", x.keep(0), 0);
        Due.is("35: join", x.join(), 100);
        Due.is("35: a full book", x.keep(1), 0);
        Due.is("36: text", Due.text(x, "hand 0 { start 1; write b 1; } hand 1 { read b; }"), 2);
        x.runs();
        Due.is("36: no room", x.join(), -3);
        Due.is("36: back", x.back(0), 0);
        Due.is("36: room", x.join(), 100);
        Due.is("36: back", x.back(1), 0);
        Due.is("36: pairs", x.status(4), 100);
        Due.is("36: the last", x.joined(99, 3), 1);
        Due.is("36: one behind", x.joined(100, 3), Due.NOTHING);
        Due.is("36: it came", x.join(), -1);
    }

    // ---- 37 ----

    private static void noSuchRow() {
        OneCup x = new OneCup();
        Due.is("37: slot 4", x.row(4, 0, 1), -2);
        Due.is("37: width 4", x.row(0, 4, 1), -2);
        Due.is("37: 61", x.row(0, 0, 61), -2);
        for (int far : FAR) {
            Due.is("37: slot " + far, x.row(far, 0, 1), -2);
            Due.is("37: width " + far, x.row(0, far, 1), -2);
            Due.is("37: so many " + far, x.row(0, 0, far), far < 0 ? -3 : -2);
        }
        Due.is("37: no rows", x.status(8), 0);
        Due.is("37: refusals", x.status(10), 3 + 2 * FAR.length + 2);
    }

    private static void rowBelowNone() {
        OneCup x = Due.told("hand 0 { read a; }");
        Due.is("37: run", Due.run(x, 9, 9), 1);
        Due.is("37: below 0", x.row(0, 0, -1), -3);
        Due.is("37: below 0, another width", x.row(0, 1, Integer.MIN_VALUE), -3);
        Due.is("37: the slot stays", x.run(0), 1);
        Due.is("37: its numbers", x.status(3), 2);
        Due.is("37: no slot is ahead of it", x.row(4, 0, -1), -2);
        Due.is("37: no width is ahead of it", x.row(0, -1, -1), -2);
        Due.is("37: refusals", x.status(10), 2);
    }

    private static void rowOfNoneAndOfSixty() {
        OneCup x = Due.told("hand 0 { read a; }");
        for (int width = 0; width < 4; width++) {
            Due.is("37: none", x.row(width, width, 0), 0);
            Due.is("37: no number", x.write(width, 0, 0), -7);
            Due.is("37: run", x.run(width), 1);
            Due.is("37: numbers", x.status(3), 0);
            Due.is("37: sixty", x.row(width, width, 60), 0);
            Due.is("37: run", x.run(width), 1);
            Due.is("37: all 0", x.status(3), 59);
            Due.is("37: the last", x.write(width, 59, 1), 0);
            Due.is("37: one behind", x.write(width, 60, 1), -7);
        }
    }

    private static void rowInPlaceOfAnother() {
        OneCup x = Due.told(TURNS);
        Due.is("37: run", Due.run(x, 9, 9, 9, 9, 9), 210);
        Due.is("37: did nothing", x.status(3), 5);
        Due.is("37: shorter", x.row(0, 3, 3), 0);
        x.run(0);
        Due.is("37: all 0", x.status(3), 0);
        Due.is("37: no number 3", x.write(0, 3, 9), -7);
        Due.is("37: longer", x.row(0, 3, 5), 0);
        x.run(0);
        Due.is("37: all 0, as new", x.status(3), 0);
    }

    // ---- 38 ----

    private static void noSuchNumber() {
        OneCup x = new OneCup();
        Due.is("38: nothing", x.write(0, 0, 1), -6);
        Due.is("38: slot 4", x.write(4, 0, 1), -2);
        Due.is("38: row", x.row(0, 0, 3), 0);
        Due.is("38: number 3", x.write(0, 3, 1), -7);
        for (int far : FAR) {
            Due.is("38: slot " + far, x.write(far, 0, 1), -2);
            Due.is("38: number " + far, x.write(0, far, 1), -7);
            Due.is("38: of nothing", x.write(1, far, 1), -6);
        }
        Due.is("38: refusals", x.status(10), 1 + FAR.length);
    }

    private static void firstAndLastNumber() {
        OneCup x = Due.told(TURNS);
        Due.is("38: row", x.row(3, 0, 4), 0);
        Due.is("38: the last", x.write(3, 3, 1), 0);
        Due.is("38: one behind", x.write(3, 4, 1), -7);
        x.run(3);
        Due.is("38: by hand 1", x.act(3, 0), 1);
        Due.is("38: then the least", x.act(4, 0), 0);
        Due.is("38: the first", x.write(3, 0, 1), 0);
        x.run(3);
        Due.is("38: not started", x.status(3), 1);
        Due.is("38: by hand 0", x.act(0, 0), 0);
    }

    /** A number that is 0 once it is cut lets hand 0 read; any other one does nothing. */
    private static void cutToWidth() {
        OneCup x = Due.told("hand 0 { read a; }");
        long[] ones = {1L << 8, 1L << 16, 1L << 32, -1L << 8, -1L << 16, -1L << 32, 255, 65535, (1L << 32) - 1, -1, Long.MIN_VALUE, Long.MAX_VALUE};
        int[] bits = {8, 16, 32, 64};
        for (int width = 0; width < 4; width++) {
            for (long v : ones) {
                Due.is("38: row", x.row(1, width, 1), 0);
                Due.is("38: write", x.write(1, 0, v), 0);
                x.run(1);
                boolean none = width == 3 ? v == 0 : (v & (1L << bits[width]) - 1) == 0;
                Due.is("38: " + v + " in width " + width, x.status(3), none ? 0 : 1);
            }
        }
    }

    private static void wideNumbersAreNoHands() {
        OneCup x = Due.told("hand 0 { start 1; } hand 1 { read a; }");
        for (int width = 0; width < 4; width++) {
            Due.is("38: row", x.row(0, width, 2), 0);
            x.write(0, 1, (1L << 32) + 1);
            x.run(0);
            Due.is("38: width " + width, x.status(3), width == 3 ? 1 : 0);
        }
    }

    // ---- 39 ----

    private static OneCup twoRows(int width, int one, int two) {
        OneCup x = Due.told(TURNS);
        x.row(0, width, one);
        x.row(1, width, two);
        for (int k = 0; k < one; k++) {
            x.write(0, k, k);
        }
        return x;
    }

    private static void pasteWithoutSlots() {
        OneCup x = twoRows(0, 4, 4);
        Due.is("39: from slot 4", x.paste(4, 0, 0, 0, 1), -2);
        Due.is("39: to slot 4", x.paste(0, 0, 4, 0, 1), -2);
        for (int far : FAR) {
            Due.is("39: from slot " + far, x.paste(far, 0, 0, 0, 1), -2);
            Due.is("39: to slot " + far, x.paste(0, 0, far, 0, 1), -2);
        }
        Due.is("39: refusals", x.status(10), 2 + 2 * FAR.length);
    }

    private static void pasteOfNothing() {
        OneCup x = twoRows(0, 4, 4);
        Due.is("39: from nothing", x.paste(2, 0, 0, 0, 0), -6);
        Due.is("39: to nothing", x.paste(0, 0, 2, 0, 0), -6);
        Due.is("39: both", x.paste(2, 0, 3, 0, 0), -6);
        Due.is("39: onto itself", x.paste(3, 0, 3, 0, 0), -6);
        Due.is("39: beyond too", x.paste(2, 99, 0, -1, -1), -6);
        Due.is("39: no refusal told by -2", x.status(10), 0);
    }

    private static void pasteOfUnlikeWidths() {
        OneCup x = new OneCup();
        for (int slot = 0; slot < 4; slot++) {
            x.row(slot, slot, 5);
        }
        for (int one = 0; one < 4; one++) {
            for (int two = 0; two < 4; two++) {
                Due.is("39: widths " + one + " and " + two, x.paste(one, 0, two, 0, 5), one == two ? 0 : -8);
                Due.is("39: of none", x.paste(one, 5, two, 5, 0), one == two ? 0 : -8);
                Due.is("39: beyond too", x.paste(one, 1, two, 0, 5), one == two ? -7 : -8);
            }
        }
        Due.is("39: no refusal told by -2", x.status(10), 0);
    }

    /** Slot 1 is all 0 still, so a run by it lets hand 0 alone go. */
    private static void pasteBeyond() {
        OneCup x = twoRows(2, 4, 3);
        Due.is("39: just so many", x.paste(0, 1, 1, 0, 3), 0);
        x.run(1);
        Due.is("39: 1 is not started, nor 2, nor 3", x.status(3), 3);
        x = twoRows(2, 4, 3);
        Due.is("39: one too many of its row", x.paste(0, 2, 1, 0, 3), -7);
        Due.is("39: one too many of the other", x.paste(0, 1, 1, 1, 3), -7);
        Due.is("39: from -1 on", x.paste(0, -1, 1, 0, 1), -7);
        Due.is("39: to -1 on", x.paste(0, 0, 1, -1, 1), -7);
        Due.is("39: -1 of them", x.paste(0, 1, 1, 1, -1), -7);
        for (int far : FAR) {
            Due.is("39: from " + far + " on", x.paste(0, far, 1, 0, 1), -7);
            Due.is("39: to " + far + " on", x.paste(0, 0, 1, far, 1), -7);
            Due.is("39: " + far + " of them", x.paste(0, 1, 1, 1, far), -7);
            Due.is("39: from and of them", x.paste(0, far, 1, 1, far), -7);
            Due.is("39: all " + far, x.paste(0, far, 1, far, far), -7);
        }
        x.run(1);
        Due.is("39: nothing happens", x.status(3), 0);
    }

    private static void pasteOfNone() {
        OneCup x = twoRows(1, 4, 3);
        Due.is("39: from the end on", x.paste(0, 4, 1, 0, 0), 0);
        Due.is("39: to the end on", x.paste(0, 0, 1, 3, 0), 0);
        Due.is("39: both", x.paste(0, 4, 1, 3, 0), 0);
        Due.is("39: from above the end on", x.paste(0, 5, 1, 0, 0), -7);
        Due.is("39: to above the end on", x.paste(0, 0, 1, 4, 0), -7);
        Due.is("39: from below 0 on", x.paste(0, -1, 1, 0, 0), -7);
        Due.is("39: to below 0 on", x.paste(0, 0, 1, -1, 0), -7);
        x.row(2, 1, 0);
        Due.is("39: of an empty row", x.paste(2, 0, 2, 0, 0), 0);
        Due.is("39: one of an empty row", x.paste(2, 0, 0, 0, 1), -7);
        Due.is("39: one to an empty row", x.paste(0, 0, 2, 0, 1), -7);
        Due.is("39: none from 1 on", x.paste(2, 1, 2, 0, 0), -7);
        x.run(1);
        Due.is("39: nothing is put", x.status(3), 0);
    }

    private static void pasteOfAll() {
        OneCup x = Due.told("hand 0 { read a; }");
        for (int slot = 0; slot < 4; slot++) {
            x.row(slot, 3, 60);
        }
        for (int k = 0; k < 60; k++) {
            x.write(2, k, 9);
        }
        Due.is("39: all sixty", x.paste(2, 0, 3, 0, 60), 0);
        Due.is("39: one too many", x.paste(2, 1, 1, 0, 60), -7);
        Due.is("39: onto itself", x.paste(3, 0, 3, 0, 60), 0);
        x.run(3);
        Due.is("39: all of them", x.status(3), 60);
        x.run(2);
        Due.is("39: those they came from", x.status(3), 60);
        x.run(1);
        Due.is("39: none beside", x.status(3), 59);
        x.run(0);
        Due.is("39: none beside", x.status(3), 59);
        Due.is("39: the last alone", x.paste(2, 59, 0, 59, 1), 0);
        Due.is("39: the first alone", x.paste(0, 0, 3, 0, 1), 0);
        x.run(3);
        Due.is("39: the first goes", x.status(3), 59);
    }

    private static void goes(OneCup x, int slot, int... want) {
        x.run(slot);
        Due.is("39: all do something", x.status(3), 0);
        for (int k = 0; k < want.length; k++) {
            Due.is("39: number " + k, x.act(k, 0), want[k]);
        }
    }

    /** As they were, though both ranges have numbers in common. */
    private static void pasteOntoItself() {
        OneCup x = Due.told(TURNS);
        Due.is("39: run", Due.run(x, 0, 0, 0, 0, 1, 2, 3), 210);
        Due.is("39: one further on", x.paste(0, 3, 0, 4, 3), 0);
        goes(x, 0, 0, 0, 0, 0, 0, 1, 2);
        Due.is("39: run", Due.run(x, 0, 0, 0, 3, 2, 1, 0), 210);
        Due.is("39: one back", x.paste(0, 4, 0, 3, 3), 0);
        goes(x, 0, 0, 0, 0, 2, 1, 0, 0);
        Due.is("39: where it is", x.paste(0, 3, 0, 3, 4), 0);
        goes(x, 0, 0, 0, 0, 2, 1, 0, 0);
    }

    /** Where several are due, the one that is told first; and where none is, only -2 is counted. */
    private static void firstRefusalFirst() {
        OneCup x = new OneCup();
        Due.is("37: 61 and no width and no slot", x.row(9, 9, 61), -2);
        Due.is("38: no slot and no number", x.write(9, 9, 9), -2);
        Due.is("38: nothing and no number", x.write(0, -1, 9), -6);
        Due.is("39: no slot and nothing", x.paste(0, 0, 4, 0, 0), -2);
        Due.is("39: no slot and below 0", x.paste(-1, -1, 0, -1, -1), -2);
        x.row(0, 0, 2);
        x.row(1, 1, 2);
        Due.is("39: unlike and below 0", x.paste(0, -1, 1, 0, 0), -8);
        Due.is("39: nothing and below 0", x.paste(0, -1, 2, 0, 0), -6);
        Due.is("13: none such and no k", x.way(0, 0, -5), -2);
        Due.is("18: none such, and of one hand", x.could(0, 0), -2);
        Due.is("34: refusals", x.status(10), 6);
    }

    // ---- an object's calls ----

    private static void allCallsOfAnObject() {
        OneCup x = Due.told(RACE);
        int calls = x.status(5) + 6;
        for (; calls < 506; calls += 2) {
            x.runs();
            x.join();
        }
        Due.is("as many runs", x.status(2), 250);
        Due.is("as many logs", x.status(9), 250);
        Due.is("a pair of all", x.joined(1, 3), 250);
        Due.is("the last of them", x.joined(1, 5), 249);
        OneCup y = new OneCup();
        for (int k = 1; k <= 511; k++) {
            Due.is("refused", y.keep(-1), -2);
        }
        Due.is("as many refusals", y.status(10), 511);
    }
}
