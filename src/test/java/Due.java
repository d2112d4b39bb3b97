import java.nio.charset.StandardCharsets;

/** What the tests share: answers that are due, and texts put on the tape. */
final class Due {
    static final int NOTHING = -2000000000;
    private static int right;
    private static int wrong;

    private Due() { }

    static void is(String call, long got, long want) {
        if (got == want) {
            right++;
        } else {
            wrong++;
            System.out.println(call + " answered " + got + ", due is " + want);
        }
    }

    /** Answers one behind the other. */
    static void row(String call, int[] got, int... want) {
        is(call + ": how many", got.length, want.length);
        for (int k = 0; k < Math.min(got.length, want.length); k++) {
            is(call + "[" + k + "]", got[k], want[k]);
        }
    }

    static void feed(OneCup x, String s) {
        byte[] b = s.getBytes(StandardCharsets.ISO_8859_1);
        int had = x.status(5);
        for (int at = 0; at < b.length; at += 20) {
            int[] five = new int[5];
            for (int k = 0; k < 20; k++) {
                five[k / 4] |= (at + k < b.length ? b[at + k] & 255 : 0) << (24 - 8 * (k % 4));
            }
            is("feed", x.feed(five[0], five[1], five[2], five[3], five[4]), had + at + 20);
        }
        is("end", x.end(had + b.length), had + b.length);
    }

    static int text(OneCup x, String s) {
        feed(x, s);
        return x.text();
    }

    /** A new object with this text. */
    static OneCup told(String s) {
        OneCup x = new OneCup();
        if (text(x, s) < 0) {
            is("text of " + s + " at " + x.fault(1), x.fault(0), 0);
        }
        return x;
    }

    /** A new object with this text and its run without a row. */
    static OneCup ran(String s) {
        OneCup x = told(s);
        x.runs();
        return x;
    }

    /** A new run by these numbers, in slot 0. */
    static int run(OneCup x, long... numbers) {
        is("row", x.row(0, 3, numbers.length), 0);
        for (int k = 0; k < numbers.length; k++) {
            is("write", x.write(0, k, numbers[k]), 0);
        }
        return x.run(0);
    }

    static void close() {
        System.out.println(right + " passed, " + wrong + " failed");
        System.exit(wrong == 0 && right > 0 ? 0 : 1);
    }
}
