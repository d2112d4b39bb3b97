import java.lang.reflect.InvocationTargetException;
import java.lang.reflect.Method;
import java.lang.reflect.Modifier;
import java.util.ArrayList;
import java.util.Comparator;
import java.util.List;
import java.util.Random;

/** Every call with wild numbers, in any state: nothing is thrown, and status(10) counts what told -2. */
public final class WildCalls {
    private static final int[] EDGES = {
        Integer.MIN_VALUE, Integer.MIN_VALUE + 1, -2000000000, -361, -8, -2, -1, 0, 1, 2, 3, 4, 5, 6, 7, 8, 9, 10, 11, 12, 20,
        39, 40, 41, 59, 60, 61, 99, 100, 101, 126, 127, 128, 359, 360, 361, 880, 881, 899, 900, 901, Integer.MAX_VALUE - 1,
        Integer.MAX_VALUE};
    private static final String[] TEXTS = {
        "hand 0 { start 1; write a 1; take p; write b 2; give p; wait 1; read a; } hand 1 { read a; take p; read b; give p; turn a 5; }",
        "hand 0 { start 1; start 2; gate { take p; take q; move a b; give q; } send x; get y; give p; } "
            + "hand 1 { gate { take q; if a = 0 { take p; turn b 1; give p; } give q; } get x; times 3 { turn a 2; } } "
            + "hand 2 { send y; gate { gate { write a 4; read b; } } wait 1; read h; }",
        "hand 0 { start 1; start 2; start 3; start 4; start 5; times 6 { times 9 { turn a 9; } } } hand 1 { times 6 { times 9 { write a 1; } } }"
            + " hand 2 { times 6 { times 9 { read a; } } } hand 3 { times 6 { times 9 { move a a; } } times 6 { move b c; } }"
            + " hand 4 { times 9 { times 6 { send x; } } } hand 5 { times 6 { times 9 { get x; } } get x; }"};

    public static void main(String[] args) throws Exception {
        List<Method> calls = new ArrayList<>();
        for (Method m : OneCup.class.getDeclaredMethods()) {
            if (Modifier.isPublic(m.getModifiers())) {
                calls.add(m);
            }
        }
        calls.sort(Comparator.comparing(Method::getName));
        int thrown = 0;
        for (int seed = 0; seed < 120; seed++) {
            thrown += wildRun(calls, new Random(seed), seed) ? 0 : 1;
        }
        Due.is("runs that went wrong", thrown, 0);
        Due.is("calls in the face", calls.size(), 38);
        Due.close();
    }

    private static boolean wildRun(List<Method> calls, Random chance, int seed) throws Exception {
        OneCup x = new OneCup();
        int refused = 0;
        for (int k = 0; k < 500; k++) {
            if (chance.nextInt(40) == 0) {
                x.end(0);
                Due.text(x, TEXTS[chance.nextInt(TEXTS.length)]);
                x.runs();
            }
            Method m = calls.get(chance.nextInt(calls.size()));
            Object[] args = new Object[m.getParameterCount()];
            for (int a = 0; a < args.length; a++) {
                Class<?> type = m.getParameterTypes()[a];
                int v = chance.nextInt(3) == 0 ? EDGES[chance.nextInt(EDGES.length)] : chance.nextInt(12);
                args[a] = type == long.class ? (Object) (chance.nextInt(4) == 0 ? chance.nextLong() : (long) v)
                    : type == boolean.class ? (Object) chance.nextBoolean() : (Object) v;
            }
            try {
                if ((Integer) m.invoke(x, args) == -2) {
                    refused++;
                }
            } catch (InvocationTargetException e) {
                System.out.println("seed " + seed + ": " + m.getName() + java.util.Arrays.toString(args) + " threw " + e.getCause());
                return false;
            }
        }
        Due.is("refusals of seed " + seed, x.status(10), refused);
        return true;
    }
}
