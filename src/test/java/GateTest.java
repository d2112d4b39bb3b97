/** Promises 30 and 31: gates, and which are one blink. */
public final class GateTest {
    public static void main(String[] args) {
        twoGates();
        kindsOfEdges();
        readsBetween();
        inOthers();
        edgesOfThisLogAlone();
        open();
        Due.close();
    }

    private static void twoGates() {
        OneCup x = Due.told("hand 0 { start 1; gate { read a; write a 1; } } hand 1 { gate { read a; write a 2; } }");
        Due.is("no log", x.gates(), 0);
        Due.is("no gate", x.blink(0), -1);
        x.runs();
        Due.is("gates", x.gates(), 2);
        Due.is("one behind the other", x.blink(0), 1);
        Due.is("one behind the other", x.blink(1), 1);
        Due.is("none such", x.blink(2), -1);
        Due.is("none such", x.blink(-1), -1);
        Due.run(x, 0, 0, 0, 1, 1);
        Due.is("ring", x.blink(0), 0);
        Due.is("ring", x.blink(1), 0);
        Due.is("refusals", x.status(10), 0);
        // reads alone
        OneCup y = Due.told("hand 0 { start 1; gate { read a; read a; } } hand 1 { gate { read a; read a; } }");
        Due.run(y, 0, 0, 0, 1, 1);
        Due.is("reads", y.blink(0), 1);
        // another hand's acts between, beside any gate
        OneCup z = Due.told("hand 0 { start 1; gate { read a; write a 1; } } hand 1 { write a 2; }");
        Due.run(z, 0, 0, 0, 1);
        Due.is("a write between", z.blink(0), 0);
        Due.run(z, 0, 0, 0, 0, 1);
        Due.is("a write behind", z.blink(0), 1);
        Due.run(z, 0, 0, 1);
        Due.is("a write ahead", z.blink(0), 1);
    }

    /** A gate that another hand's acts come out of and go back to, by each kind of edge. */
    private static void kindsOfEdges() {
        OneCup x = Due.ran("hand 0 { start 1; gate { send x; get y; } } hand 1 { get x; send y; }");
        Due.is("notes", x.blink(0), 0);
        OneCup y = Due.ran("hand 0 { gate { start 1; wait 1; } } hand 1 { read b; }");
        Due.is("start and wait", y.blink(0), 0);
        OneCup z = Due.ran("hand 0 { gate { start 1; wait 1; } } hand 1 { give p; }");
        Due.is("no acts", z.blink(0), 1);
        OneCup w = Due.told("hand 0 { start 1; gate { take p; give p; read a; take p; give p; } } hand 1 { take p; give p; }");
        Due.run(w, 0, 0, 0, 0, 1, 1);
        Due.is("bolts", w.blink(0), 0);
        Due.run(w, 0, 1, 1, 0, 0);
        Due.is("bolts ahead", w.blink(0), 1);
        // over several hands: 0's gate to 1, 1 to 2, 2 to the gate
        OneCup v = Due.told("hand 0 { start 1; start 2; gate { write a 1; read c; } } hand 1 { read a; write b 1; } hand 2 { read b; write c 1; }");
        Due.run(v, 0, 0, 0, 0, 1, 1, 2, 2, 0);
        Due.is("over two hands", v.blink(0), 0);
        Due.run(v, 0, 0, 0, 0, 1, 1, 2, 0, 2);
        Due.is("the last one behind", v.blink(0), 1);
        // laws do not matter
        Due.run(v, 0, 0, 0, 0, 1, 1, 2, 2, 0);
        for (int law = 0; law < 5; law++) {
            v.law(law, false);
        }
        Due.is("without laws", v.blink(0), 0);
    }

    /** A write is behind each read of its cell, though other reads stand between; and behind what it overwrites. */
    private static void readsBetween() {
        OneCup x = Due.told("hand 0 { start 1; start 2; gate { read a; read b; } } hand 1 { write a 1; write b 1; } hand 2 { read a; read a; read a; }");
        Due.is("run", Due.run(x, 0, 0, 0, 0, 2, 2, 2, 1, 1, 0), 11);
        Due.is("over three reads", x.blink(0), 0);
        OneCup y = Due.told("hand 0 { start 1; gate { write a 1; read b; } } hand 1 { write a 2; write b 1; }");
        Due.is("run", Due.run(y, 0, 0, 0, 1, 1, 0), 7);
        Due.is("write and write", y.blink(0), 0);
        OneCup z = Due.told("hand 0 { gate { start 1; take p; give p; read b; } } hand 1 { take p; write b 1; }");
        Due.is("run", Due.run(z, 0, 0, 0, 0, 1, 1, 0), 8);
        Due.is("a bolt of the gate's own", z.blink(0), 0);
        OneCup w = Due.told("hand 0 { gate { read a; read a; } start 1; } hand 1 { write a 1; }");
        Due.is("run", Due.run(w, 0, 0, 0, 0, 0, 1), 6);
        Due.is("out and not back", w.blink(0), 1);
    }

    private static void inOthers() {
        OneCup x = Due.told("hand 0 { start 1; gate { read a; gate { read b; } write a 1; } gate { read b; } } hand 1 { write a 2; }");
        Due.run(x, 0, 0, 0, 1);
        Due.is("gates", x.gates(), 3);
        Due.is("outer", x.blink(0), 0);
        Due.is("that it lies in", x.blink(1), 0);
        Due.is("beside", x.blink(2), 1);
        // a ring between others does not touch it; a gate that only leads to a ring is not on it
        OneCup y = Due.told("hand 0 { start 1; gate { write c 1; } gate { read a; write a 1; } gate { read d; } } hand 1 { write a 2; }");
        Due.run(y, 0, 0, 0, 0, 0, 0, 1);
        Due.is("ahead of the ring", y.blink(0), 1);
        Due.is("ring", y.blink(1), 0);
        Due.is("behind the ring", y.blink(2), 1);
    }

    /** Acts 3 and 5 were gets in the log before, of what acts 2 and 4 sent. */
    private static void edgesOfThisLogAlone() {
        OneCup x = Due.ran("hand 0 { start 1; read a; send x; get y; read b; } hand 1 { get x; send y; }");
        Due.is("a get", x.act(3, 1), 6);
        Due.is("a get", x.act(5, 1), 6);
        Due.is("text", Due.text(x, "hand 0 { start 1; gate { read a; read b; } } hand 1 { read c; read d; }"), 2);
        Due.is("run", Due.run(x, 0, 0, 0, 1, 1, 0), 7);
        Due.is("they are reads", x.act(3, 1) + x.act(5, 1), 0);
        Due.is("one blink", x.blink(0), 1);
        // act 5 was in the gate and came of act 4; this log ends ahead of it
        OneCup y = Due.ran("hand 0 { start 1; gate { send x; get y; } } hand 1 { get x; send y; }");
        Due.is("out and back", y.blink(0), 0);
        Due.is("text", Due.text(y, "hand 0 { start 1; gate { write a 1; } } hand 1 { read a; }"), 2);
        Due.is("runs", y.runs(), 5);
        Due.is("not back", y.blink(0), 1);
    }

    /** A gate that its hand does not come out of goes to the end. */
    private static void open() {
        OneCup x = Due.ran("hand 0 { start 1; gate { write a 1; get x; read a; } } hand 1 { write a 2; send x; get y; }");
        Due.is("gates", x.gates(), 1);
        Due.is("to the end", x.blink(0), 0);
        OneCup y = Due.ran("hand 0 { start 1; gate { write a 1; get x; } } hand 1 { write a 2; }");
        Due.is("open", y.stuck(), 1);
        Due.is("to the end", y.blink(0), 1);
    }
}
