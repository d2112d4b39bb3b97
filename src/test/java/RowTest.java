/** Promises 37 to 39: rows of numbers in slots. */
public final class RowTest {
    /** Hands by number; each goes once for a number, so that a log tells what a row has. */
    private static final String SIX = "hand 0 { start 1; start 2; start 3; times 9 { times 5 { read a; } } }"
        + " hand 1 { times 9 { times 6 { read b; } } } hand 2 { times 9 { times 6 { read c; } } } hand 3 { times 9 { times 6 { read d; } } }";

    public static void main(String[] args) {
        row();
        fullRows();
        write();
        widths();
        paste();
        Due.close();
    }

    private static void row() {
        OneCup x = new OneCup();
        Due.is("slot 4", x.row(4, 0, 1), -2);
        Due.is("slot -1", x.row(-1, 0, 1), -2);
        Due.is("width 4", x.row(0, 4, 1), -2);
        Due.is("width -1", x.row(0, -1, 1), -2);
        Due.is("61 numbers", x.row(0, 0, 61), -2);
        Due.is("61 numbers and no slot", x.row(9, 9, Integer.MAX_VALUE), -2);
        Due.is("no slot, below 0", x.row(4, 0, -1), -2);
        Due.is("no width, below 0", x.row(0, 4, -1), -2);
        Due.is("below 0", x.row(0, 0, -1), -3);
        Due.is("far below 0", x.row(0, 0, Integer.MIN_VALUE), -3);
        Due.is("no row yet", x.run(0), -6);
        Due.is("rows", x.status(8), 0);
        Due.is("60 numbers", x.row(0, 3, 60), 0);
        Due.is("none", x.row(3, 0, 0), 0);
        Due.is("rows", x.status(8), 2);
        Due.is("refusals", x.status(10), 8);
        Due.is("number 59", x.write(0, 59, 1), 0);
        Due.is("below 0", x.row(0, 0, -1), -3);
        Due.is("it stays", x.write(0, 59, 1), 0);
        Due.is("another", x.row(0, 0, 2), 0);
        Due.is("number 1", x.write(0, 1, 1), 0);
        Due.is("number 2", x.write(0, 2, 1), -7);
        Due.is("rows", x.status(8), 2);
        // all 0 in place of what was there
        Due.text(x, SIX);
        x.write(0, 0, 9);
        x.run(0);
        Due.is("did nothing", x.status(3), 2);
        x.row(0, 0, 2);
        x.run(0);
        Due.is("did nothing", x.status(3), 0);
    }

    /** A full row is 0 up to its end, and the rows beside it are as they were. */
    private static void fullRows() {
        OneCup x = Due.told("hand 0 { read a; }");
        for (int slot = 3; slot >= 0; slot--) {
            x.row(slot, 2, 60);
            for (int k = 0; k < 60; k++) {
                x.write(slot, k, 7);
            }
        }
        for (int slot = 0; slot < 4; slot++) {
            Due.is("a new row", x.row(slot, 2, 60), 0);
            for (int next = slot + 1; next < 4; next++) {
                x.run(next);
                Due.is("the row beside", x.status(3), 60);
            }
            x.run(slot);
            Due.is("all but the first 0 find no code", x.status(3), 59);
            Due.is("the last number", x.write(slot, 59, 9), 0);
        }
    }

    private static void write() {
        OneCup x = new OneCup();
        Due.is("no slot", x.write(4, 0, 0), -2);
        Due.is("no slot", x.write(-1, 0, 0), -2);
        Due.is("nothing", x.write(0, 0, 0), -6);
        x.row(0, 0, 3);
        Due.is("number 3", x.write(0, 3, 0), -7);
        Due.is("number -1", x.write(0, -1, 0), -7);
        Due.is("number 2", x.write(0, 2, 0), 0);
        x.row(1, 0, 0);
        Due.is("none there", x.write(1, 0, 0), -7);
        Due.is("refusals", x.status(10), 2);
    }

    private static int idle(OneCup x, int width, long v) {
        x.row(2, width, 1);
        x.write(2, 0, v);
        x.run(2);
        return x.status(3);
    }

    private static void widths() {
        OneCup x = Due.told("hand 0 { read a; }");
        Due.is("256 in one byte", idle(x, 0, 256), 0);
        Due.is("255 in one byte", idle(x, 0, 255), 1);
        Due.is("-256 in one byte", idle(x, 0, -256), 0);
        Due.is("256 in two", idle(x, 1, 256), 1);
        Due.is("65536 in two", idle(x, 1, 65536), 0);
        Due.is("65536 in four", idle(x, 2, 65536), 1);
        Due.is("2^32 in four", idle(x, 2, 1L << 32), 0);
        Due.is("2^32 in eight", idle(x, 3, 1L << 32), 1);
        Due.is("2^63 in four", idle(x, 2, Long.MIN_VALUE), 0);
        Due.is("2^63 in eight", idle(x, 3, Long.MIN_VALUE), 1);
        Due.is("-1 in one", idle(x, 0, -1), 1);
    }

    /** The hands that go by slot 0, for so many numbers behind three starts. */
    private static void goes(OneCup x, int slot, int... want) {
        x.run(slot);
        for (int k = 0; k < want.length; k++) {
            Due.is("goes " + k, x.act(k, 0), want[k]);
        }
    }

    private static void paste() {
        OneCup x = Due.told(SIX);
        x.row(0, 2, 9);
        for (int k = 3; k < 9; k++) {
            x.write(0, k, k % 4);
        }
        goes(x, 0, 0, 0, 0, 3, 0, 1, 2, 3, 0);
        Due.is("onto itself, behind", x.paste(0, 3, 0, 4, 5), 0);
        goes(x, 0, 0, 0, 0, 3, 3, 0, 1, 2, 3);
        Due.is("onto itself, ahead", x.paste(0, 5, 0, 3, 4), 0);
        goes(x, 0, 0, 0, 0, 0, 1, 2, 3, 2, 3);
        x.row(1, 2, 6);
        Due.is("to another", x.paste(0, 5, 1, 3, 3), 0);
        goes(x, 1, 0, 0, 0, 2, 3, 2);
        Due.is("all", x.paste(0, 0, 1, 0, 6), 0);
        Due.is("no slot", x.paste(4, 0, 0, 0, 0), -2);
        Due.is("no slot", x.paste(0, 0, 4, 0, 0), -2);
        Due.is("no slot", x.paste(-1, 0, 0, 0, 0), -2);
        Due.is("no slot, though nothing is there", x.paste(3, 0, -1, 0, 0), -2);
        Due.is("nothing", x.paste(0, 0, 3, 0, 0), -6);
        Due.is("nothing", x.paste(3, 0, 0, 0, 0), -6);
        x.row(2, 1, 9);
        Due.is("not of one width", x.paste(0, 0, 2, 0, 1), -8);
        Due.is("not of one width, and beyond", x.paste(0, 0, 2, 0, 99), -8);
        Due.is("beyond its row", x.paste(0, 4, 1, 0, 6), -7);
        Due.is("beyond the other", x.paste(0, 0, 1, 1, 6), -7);
        Due.is("below 0", x.paste(0, -1, 1, 0, 1), -7);
        Due.is("below 0", x.paste(0, 0, 1, -1, 1), -7);
        Due.is("below 0", x.paste(0, 0, 1, 0, -1), -7);
        Due.is("none of them", x.paste(0, 9, 1, 6, 0), 0);
        Due.is("none of them, beyond", x.paste(0, 10, 1, 0, 0), -7);
        Due.is("none of them, beyond", x.paste(0, 0, 1, 7, 0), -7);
        int big = Integer.MAX_VALUE;
        Due.is("far beyond", x.paste(0, big, 1, 0, big), -7);
        Due.is("far beyond", x.paste(0, 0, 1, big, big), -7);
        Due.is("far beyond", x.paste(0, big, 1, big, 1), -7);
        Due.is("far below", x.paste(0, Integer.MIN_VALUE, 1, 0, Integer.MIN_VALUE), -7);
        Due.is("refusals", x.status(10), 4);
        goes(x, 0, 0, 0, 0, 0, 1, 2, 3, 2, 3);
        goes(x, 1, 0, 0, 0, 0, 1, 2);
    }
}
