/** Promises 21 to 23: bolts held at all touches, touches by habit, rings of bolts. */
public final class HabitTest {
    public static void main(String[] args) {
        always();
        habit();
        ring();
        Due.close();
    }

    private static void always() {
        OneCup x = Due.ran("hand 0 { start 1; take p; take s; write a 1; read b; give p; read b; turn c 1; give s; read d; }"
            + " hand 1 { take s; read a; write b 1; give s; }");
        Due.is("a", x.always(0), 8);
        Due.is("b", x.always(1), 8);
        Due.is("c", x.always(2), 8);
        Due.is("d", x.always(3), 0);
        Due.is("without any touch", x.always(4), 15);
        Due.is("always 8", x.always(8), -2);
        Due.is("always -1", x.always(-1), -2);
        Due.is("refusals", x.status(10), 2);
        Due.is("of one hand alone", Due.ran("hand 0 { take q; write a 1; take r; write a 2; }").always(0), 2);
    }

    private static void habit() {
        OneCup x = Due.ran("hand 0 { start 1; take p; write a 1; give p; read a; turn a 1; } hand 1 { take p; write a 2; give p; read a; turn a 1; }");
        // 2 write p, 4 read, 5 turn (0); 7 write p, 9 read, 10 turn (1)
        // 2: 9, 10; 4: 7, 10; 5: 7, 9, 10
        Due.is("habit", x.habit(), 7);
        Due.is("both, but not one of both", Due.ran("hand 0 { start 1; take p; write a 1; } hand 1 { take q; write a 1; }").habit(), 1);
        Due.is("both", Due.ran("hand 0 { start 1; take p; take q; write a 1; give q; give p; } hand 1 { take r; take q; write a 1; }").habit(), 0);
        Due.is("ordered all the same", Due.ran("hand 0 { write a 1; start 1; } hand 1 { write a 1; }").habit(), 1);
        Due.is("reads", Due.ran("hand 0 { start 1; read a; } hand 1 { read a; }").habit(), 0);
        Due.is("other cells", Due.ran("hand 0 { start 1; write a 1; } hand 1 { write b 1; }").habit(), 0);
        Due.is("none", new OneCup().habit(), 0);
    }

    private static void ring() {
        OneCup x = Due.told("hand 0 { start 1; take p; take q; give q; give p; } hand 1 { take q; take p; give p; give q; }");
        Due.is("no log", x.ring(), 0);
        x.runs();
        Due.is("p and q", x.ring(), 3);
        Due.is("they wait for each other", Due.run(x, 0, 0, 1), 3);
        Due.is("not taken", x.ring(), 0);
        Due.is("three and one beside", Due.ran("hand 0 { take p; take q; give p; take s; give q; take p; give s; give p; take r; take p; }").ring(), 11);
        Due.is("no ring", Due.ran("hand 0 { take p; take q; take r; take s; }").ring(), 0);
        Due.is("two rings", Due.ran("hand 0 { take p; take s; give p; take p; give p; give s; take q; take r; give q; take q; }").ring(), 15);
        Due.is("no longer held", Due.ran("hand 0 { take p; take q; give q; give p; take q; give q; take p; }").ring(), 0);
    }
}
