/** Promises 32 to 36: the book of many logs, status, images. */
public final class BookTest {
    private static final String RACE = "hand 0 { start 1; write a 1; write b 1; } hand 1 { read b; read a; }";

    public static void main(String[] args) {
        join();
        oncePerLog();
        room();
        status();
        images();
        imagesOfLogs();
        Due.close();
    }

    private static void pair(OneCup x, int k, int... want) {
        for (int what = 0; what < want.length; what++) {
            Due.is("joined " + k + " " + what, x.joined(k, what), want[what]);
        }
    }

    private static void join() {
        OneCup x = Due.told(RACE);
        Due.is("none joined", x.joined(0, 0), Due.NOTHING);
        Due.is("empty log", x.join(), 0);
        Due.is("came already", x.join(), -1);
        x.runs();
        Due.is("join", x.join(), 2);
        Due.is("came already", x.join(), -1);
        Due.is("logs", x.status(9), 2);
        Due.is("pairs", x.status(4), 2);
        pair(x, 0, 29, 51, 1, 1, 1, 1);
        pair(x, 1, 18, 59, 0, 1, 1, 1);
        Due.is("no pair 2", x.joined(2, 0), Due.NOTHING);
        Due.is("no pair -1", x.joined(-1, 0), Due.NOTHING);
        Due.is("no what 6", x.joined(0, 6), Due.NOTHING);
        Due.is("no what -1", x.joined(0, -1), Due.NOTHING);
        // the other way round: the lesser place is still the first
        Due.run(x, 0, 1, 1);
        Due.is("ahead", x.meet(0, 3), 59);
        Due.is("join", x.join(), 0);
        pair(x, 0, 29, 51, 1, 2, 1, 2);
        pair(x, 1, 18, 59, 0, 2, 1, 2);
        Due.text(x, "hand 0 { start 1; write c 1; } hand 1 { read c; }");
        Due.is("empty log", x.join(), 0);
        x.runs();
        Due.is("join", x.join(), 1);
        pair(x, 2, 18, 40, 2, 1, 4, 4);
        Due.is("logs", x.status(9), 5);
        Due.is("changed law", x.law(2, false), 1);
        Due.is("came already", x.join(), -1);
    }

    private static void oncePerLog() {
        OneCup x = Due.ran("hand 0 { start 1; times 3 { write a 1; } } hand 1 { times 4 { read a; } }");
        Due.is("meets", x.meets(), 12);
        Due.is("join", x.join(), 1);
        pair(x, 0, 28, 62, 0, 1, 0, 0);
        x.runs();
        Due.is("join", x.join(), 0);
        pair(x, 0, 28, 62, 0, 2, 0, 1);
    }

    private static String writes(int n) {
        StringBuilder s = new StringBuilder("{ ");
        for (int k = 0; k < n; k++) {
            s.append("write a 1; ");
        }
        return s.append("}").toString();
    }

    private static void room() {
        OneCup x = Due.ran("hand 0 { start 1; gate " + writes(11) + " } hand 1 " + writes(10));
        Due.is("meets", x.meets(), 110);
        Due.is("no room", x.join(), -3);
        Due.is("none came", x.status(4), 0);
        Due.is("not joined", x.status(9), 0);
        Due.is("no room still", x.join(), -3);
        Due.is("none there", x.joined(0, 0), Due.NOTHING);
        Due.text(x, "hand 0 { start 1; gate " + writes(10) + " } hand 1 " + writes(10));
        x.runs();
        Due.is("just so many", x.join(), 100);
        Due.is("pairs", x.status(4), 100);
        pair(x, 99, 124, 247, 0, 1, 0, 0);
        x.runs();
        Due.is("again", x.join(), 0);
        pair(x, 99, 124, 247, 0, 2, 0, 1);
        Due.text(x, "hand 0 { start 1; gate " + writes(10) + " } hand 1 { take p; " + writes(1).substring(2));
        x.runs();
        Due.is("one more", x.join(), -3);
        pair(x, 0, 25, 148, 0, 2, 0, 1);
        Due.is("logs", x.status(9), 2);
        x.back(0);
        x.keep(0);
        Due.text(x, "");
        Due.is("an empty one has room", x.join(), 0);
    }

    private static void status() {
        OneCup x = Due.told("hand 3 { } hand 0 { take p; read a; } ");
        Due.is("hands", x.status(0), 2);
        Due.is("acts", x.status(1), 0);
        Due.run(x, 0, 5, 3, 0, 0);
        Due.is("acts", x.status(1), 2);
        Due.is("runs", x.status(2), 1);
        Due.is("numbers that did nothing", x.status(3), 3);
        Due.is("tape", x.status(5), 0);
        x.feed(0, 0, 0, 0, 0);
        Due.is("tape", x.status(5), 20);
        Due.is("rows", x.status(8), 1);
        x.row(3, 1, 0);
        Due.is("rows", x.status(8), 2);
        Due.is("status -1", x.status(-1), -1);
        Due.is("status 11", x.status(11), -1);
        Due.is("refusals", x.status(10), 0);
        x.back(3);
        x.keep(-1);
        x.may(500);
        x.always(9);
        Due.is("refusals", x.status(10), 4);
        x.act(9, 9);
        x.cell(9);
        x.write(1, 0, 0);
        x.write(3, 0, 0);
        x.status(77);
        Due.is("no others", x.status(10), 4);
    }

    private static void images() {
        OneCup x = Due.told(RACE);
        Due.is("keep 3", x.keep(3), -2);
        Due.is("keep -1", x.keep(-1), -2);
        Due.is("back 3", x.back(3), -2);
        Due.is("back -1", x.back(-1), -2);
        Due.is("back to nothing", x.back(1), -6);
        Due.is("refusals", x.status(10), 4);
        Due.run(x, 0, 1, 7, 1);
        x.law(4, false);
        x.join();
        Due.is("keep", x.keep(1), 0);
        Due.text(x, "hand 0 { start 1; write c 1; get x; } hand 1 { read c; } hand 2 { }");
        x.runs();
        x.runs();
        x.law(0, false);
        x.law(4, true);
        x.join();
        x.feed(0, 0, 0, 0, 0);
        x.row(1, 0, 3);
        Due.is("ends", x.ends(), 1);
        int states = x.status(7);
        Due.is("stuck", x.stuck(), 1);
        Due.is("pairs", x.status(4), 3);
        Due.is("back", x.back(1), 0);
        Due.is("hands", x.status(0), 2);
        Due.is("acts", x.status(1), 5);
        Due.is("runs", x.status(2), 1);
        Due.is("did nothing", x.status(3), 1);
        Due.is("pairs", x.status(4), 2);
        Due.is("tape is not kept", x.status(5), 20);
        Due.is("laws", x.status(6), 15);
        Due.is("states are not kept", x.status(7), states);
        Due.is("rows are not kept", x.status(8), 2);
        Due.is("logs", x.status(9), 1);
        Due.is("refusals are not kept", x.status(10), 4);
        Due.is("stuck", x.stuck(), 0);
        Due.is("cell", x.cell(1), 1);
        Due.is("cell", x.cell(2), 0);
        Due.is("act", x.act(1, 4), 51);
        Due.is("meets", x.meets(), 2);
        pair(x, 0, 18, 59, 0, 1, 0, 0);
        pair(x, 1, 29, 51, 1, 1, 0, 0);
        Due.is("text", x.runs(), 5);
        Due.is("once more", x.back(1), 0);
        Due.is("act", x.act(1, 4), 51);
    }

    private static void imagesOfLogs() {
        OneCup x = Due.ran(RACE);
        x.keep(0);
        Due.is("join", x.join(), 2);
        x.keep(2);
        Due.is("back", x.back(0), 0);
        Due.is("not joined then", x.join(), 2);
        Due.is("joined", x.join(), -1);
        Due.is("back", x.back(2), 0);
        Due.is("joined then", x.join(), -1);
        Due.is("logs", x.status(9), 1);
        Due.is("keep in place of another", x.keep(0), 0);
        Due.text(x, "");
        Due.is("back", x.back(0), 0);
        Due.is("joined then", x.join(), -1);
        Due.is("acts", x.status(1), 5);
    }
}
