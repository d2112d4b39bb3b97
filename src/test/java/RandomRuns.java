import java.lang.reflect.InvocationTargetException;
import java.lang.reflect.Method;
import java.nio.charset.StandardCharsets;
import java.util.ArrayList;
import java.util.HashMap;
import java.util.List;
import java.util.Map;
import java.util.Random;

/** Texts made by chance (from set seeds), asked of OneCup and of SlowCup: all answers must be the same. */
public final class RandomRuns {
    private static final Map<String, Method> QUICK = new HashMap<>();
    private static final Map<String, Method> SLOW = new HashMap<>();
    private static int wrong;
    private static long calls;

    private final Random chance;
    private OneCup quick = new OneCup();
    private SlowCup slow = new SlowCup();
    private final List<String> told = new ArrayList<>();

    private RandomRuns(long seed) {
        chance = new Random(seed);
    }

    public static void main(String[] args) throws Exception {
        for (Method m : OneCup.class.getDeclaredMethods()) {
            if (java.lang.reflect.Modifier.isPublic(m.getModifiers())) {
                QUICK.put(m.getName(), m);
                SLOW.put(m.getName(), SlowCup.class.getDeclaredMethod(m.getName(), m.getParameterTypes()));
            }
        }
        int many = args.length > 0 ? Integer.parseInt(args[0]) : 400;
        long from = args.length > 1 ? Long.parseLong(args[1]) : 1;
        for (long seed = from; seed < from + many && wrong < 20; seed++) {
            RandomRuns r = new RandomRuns(seed);
            for (int evening = 0; evening < 4 && wrong < 20; evening++) {
                r.evening(seed);
            }
            for (int text = 0; text < 3 && wrong < 20; text++) {
                r.stroll();
            }
        }
        System.out.println(calls + " calls on both, " + wrong + " answers unlike");
        System.exit(wrong == 0 ? 0 : 1);
    }

    /** Asks both; the answer of OneCup. */
    private int ask(String name, Object... args) {
        calls++;
        String call = name + java.util.Arrays.toString(args);
        told.add(call);
        try {
            Object a = QUICK.get(name).invoke(quick, args);
            Object b = SLOW.get(name).invoke(slow, args);
            if (!a.equals(b)) {
                wrong++;
                System.out.println("unlike: " + call + " answered " + a + ", slowly " + b);
                if (wrong == 1) {
                    System.out.println("after " + told);
                }
            }
            return (Integer) a;
        } catch (IllegalAccessException | InvocationTargetException e) {
            wrong++;
            System.out.println("thrown: " + call + " " + e.getCause());
            System.out.println("after " + told);
            return 0;
        }
    }

    private int upTo(int n) {
        return chance.nextInt(n);
    }

    private char oneOf(String s) {
        return s.charAt(upTo(s.length()));
    }

    // ---- texts ----

    private String step(int depth, int hands, String cells, String bolts) {
        char c = oneOf(cells);
        char d = oneOf(cells);
        char b = oneOf(bolts);
        char k = oneOf("xyz");
        int h = upTo(8) == 0 ? upTo(6) : upTo(hands);
        int n = upTo(3) == 0 ? upTo(1000) : upTo(4);
        String open = depth < 4 ? steps(depth + 1, hands, cells, bolts, 1 + upTo(3)) : "read a;";
        switch (upTo(depth < 4 ? 22 : 17)) {
            case 0: case 1: case 2: return "read " + c + ";";
            case 3: case 4: return "write " + c + " " + n + ";";
            case 5: return "move " + c + " " + d + ";";
            case 6: case 7: return "turn " + c + " " + n + ";";
            case 8: return "take " + b + ";";
            case 9: return "give " + b + ";";
            case 10: case 11: return "take " + b + "; " + "write " + c + " " + n + "; give " + b + ";";
            case 12: return "send " + k + ";";
            case 13: return "get " + k + ";";
            case 14: return upTo(2) == 0 ? "start " + h + ";" : "wait " + h + ";";
            case 15: return "take " + b + "; take " + oneOf(bolts) + "; give " + b + "; give " + oneOf(bolts) + ";";
            case 16: return "read " + c + "; write " + c + " " + n + ";";
            case 17: return "if " + c + oneOf("<=") + n + " { " + open + " }";
            case 18: return "if " + c + oneOf("<=") + n + "{" + open + "}";
            case 19: return "times " + (2 + upTo(2)) + " { " + open + " }";
            case 20: return "gate { " + open + " }";
            default: return "gate {" + open + "}";
        }
    }

    private String steps(int depth, int hands, String cells, String bolts, int count) {
        StringBuilder s = new StringBuilder();
        for (int k = 0; k < count; k++) {
            s.append(step(depth, hands, cells, bolts)).append(oneOf("  \n"));
        }
        return s.toString();
    }

    private String program() {
        int hands = 2 + upTo(3);
        String cells = "abcdefgh".substring(0, 1 + upTo(3)) + (upTo(4) == 0 ? "h" : "");
        String bolts = "pqrs".substring(0, 1 + upTo(4));
        StringBuilder s = new StringBuilder();
        for (int h = 0; h < hands; h++) {
            if (upTo(12) == 0) {
                continue;
            }
            s.append("hand ").append(h).append(" { ");
            if (h == 0) {
                for (int other = 1; other < hands; other++) {
                    if (upTo(10) > 0) {
                        s.append("start ").append(other).append("; ");
                    }
                }
            }
            s.append(steps(0, hands, cells, bolts, 1 + upTo(7)));
            if (h == 0 && upTo(3) == 0) {
                s.append("wait 1; read a; ");
            }
            s.append("} ");
        }
        return s.toString();
    }

    /** Now and then something that can't stand there. */
    private String spoilt(String s) {
        int at = upTo(s.length() + 1);
        switch (upTo(6)) {
            case 0: return s.substring(0, at);
            case 1: return s.substring(0, at) + oneOf(";{}<=0198azhp.A\t\r\0 ") + s.substring(at);
            case 2: return s.substring(0, at) + s.substring(Math.min(s.length(), at + 1));
            case 3: return s + s;
            case 4: return s.replace("write a", "gate { gate { gate { gate { gate { } } } } } write a");
            default: return s.replace("take p;", "take p; times 9 { times 9 { turn a 1; } }").replace(" 2", " 1000");
        }
    }

    private void tell(String s) {
        byte[] bytes = s.getBytes(StandardCharsets.ISO_8859_1);
        int n = Math.min(bytes.length, 900);
        for (int at = 0; at < n; at += 20) {
            int[] five = new int[5];
            for (int k = 0; k < 20; k++) {
                int b = at + k < n ? bytes[at + k] & 255 : 32;
                five[k / 4] |= b << (24 - 8 * (k % 4));
            }
            ask("feed", five[0], five[1], five[2], five[3], five[4]);
        }
        ask("status", 5);
        ask("end", n);
        ask("status", 5);
        ask("text");
        ask("fault", 0);
        ask("fault", 1);
        ask("fault", 2);
        lookAtWhatStays();
    }

    /** What no new log takes away, or what it must take away. */
    private void lookAtWhatStays() {
        for (int k = -1; k < 4; k++) {
            ask("shown", k);
            ask("led", k);
        }
        ask("harm");
        ask("stuck");
        ask("gates");
        ask("cell", upTo(9));
        ask("meet", 0, upTo(5));
        ask("status", upTo(11));
    }

    // ---- evenings ----

    private void evening(long seed) {
        String s = program();
        if (upTo(3) == 0) {
            tell(spoilt(s));
            tell(s);
        } else {
            tell(s);
        }
        if (upTo(4) == 0) {
            ask("law", upTo(7) - 1, upTo(2) == 0);
        }
        fillRow();
        for (int round = 0; round < 3; round++) {
            if (round == 1 && upTo(3) == 0) {
                ask("keep", upTo(5) - 1);
            }
            int acts = upTo(4) == 0 ? ask("runs") : ask("run", upTo(3) == 0 ? upTo(6) - 1 : 0);
            lookAtWhatStays();
            lookAtLog(slow.log.size());
            orders(slow.log.size());
            ask("join");
            ask("join");
            lookAtBook();
            if (round == 1 && upTo(3) == 0) {
                ask("back", upTo(5) - 1);
                lookAtWhatStays();
                lookAtLog(slow.log.size());
                ask("join");
                lookAtBook();
            }
            stir();
        }
        ask("ends");
        ask("status", 7);
        ask("waits");
        ask("status", 7);
        for (int k = -1; k < 12; k++) {
            ask("led", k);
        }
    }

    private void fillRow() {
        int n = upTo(30);
        int slot = upTo(2) == 0 ? 0 : upTo(6) - 1;
        ask("row", slot, upTo(8) == 0 ? upTo(6) - 1 : upTo(4), n);
        ask("status", 8);
        for (int k = 0; k < n; k++) {
            ask("write", slot, k, upTo(10) == 0 ? chance.nextLong() : (long) upTo(5));
        }
        ask("write", slot, n, 1L);
        ask("write", slot, -1, 1L);
    }

    private void stir() {
        ask("paste", upTo(6) - 1, upTo(20) - 1, upTo(6) - 1, upTo(20) - 1, upTo(20) - 1);
        ask("write", 0, upTo(32) - 1, (long) (upTo(8) - 1));
        ask("write", 0, upTo(32) - 1, (long) upTo(4) << 8 * upTo(8));
        if (upTo(3) == 0) {
            ask("law", upTo(5), upTo(3) > 0);
        }
    }

    private void lookAtLog(int acts) {
        for (int i = -1; i <= acts; i++) {
            for (int what = -1; what < 8; what++) {
                ask("act", i, what);
            }
        }
        for (int c = -1; c <= 8; c++) {
            ask("cell", c);
            ask("first", c);
            ask("always", c);
        }
        ask("stuck");
        for (int what = -1; what < 12; what++) {
            ask("status", what);
        }
        for (int k = 0; k < 40; k++) {
            int i = upTo(acts + 2) - 1;
            int j = upTo(acts + 2) - 1;
            ask("before", i, j);
            for (int m = -1; m < 6; m++) {
                ask("way", i, j, m);
            }
            ask("way", i, j, upTo(acts + 1));
        }
        int meetings = ask("meets");
        for (int k = -1; k <= Math.min(meetings, 60); k++) {
            for (int what = -1; what < 6; what++) {
                ask("meet", k, what);
            }
        }
        for (int k = 0; k < 6; k++) {
            ask("small", k);
        }
        ask("small", 40);
        ask("small", 41);
        ask("habit");
        ask("ring");
        ask("may", upTo(130) - 1);
        ask("may", 0);
        ask("may", 127);
        if (acts <= 45) {
            ask("least");
            ask("mend");
        }
        int gates = ask("gates");
        for (int g = -1; g <= gates; g++) {
            ask("blink", g);
        }
    }

    private void orders(int acts) {
        for (int k = 0; k < (acts <= 45 ? 8 : 2); k++) {
            int i = upTo(acts + 2) - 1;
            int j = upTo(acts + 2) - 1;
            if (k % 2 == 0 && slow.meets() > 0) {
                int m = upTo(slow.meets());
                i = slow.meet(m, 0);
                j = slow.meet(m, 1);
            }
            ask("could", i, j);
            ask("status", 7);
            for (int at = -1; at <= 12; at++) {
                ask("shown", at);
            }
            ask("shown", acts);
            ask("harm");
        }
    }

    /** Calls in any order, so that each is asked behind each other one. */
    private void stroll() {
        tell(upTo(5) == 0 ? spoilt(program()) : program());
        for (int k = 0; k < 120; k++) {
            int acts = slow.log.size();
            int i = upTo(acts + 2) - 1;
            int j = upTo(acts + 2) - 1;
            switch (upTo(30)) {
                case 0: ask("runs"); break;
                case 1: ask("run", upTo(5) - 1); break;
                case 2: ask("keep", upTo(5) - 1); break;
                case 3: ask("back", upTo(5) - 1); break;
                case 4: ask("law", upTo(6), upTo(2) == 0); break;
                case 5: ask("text"); break;
                case 6: tell(program()); break;
                case 7: ask("ends"); ask("status", 7); break;
                case 8: ask("waits"); ask("status", 7); break;
                case 9: ask("led", upTo(6) - 1); break;
                case 10: case 11: case 12: ask("could", i, j); ask("status", 7); break;
                case 13: ask("shown", upTo(6) - 1); break;
                case 14: ask("harm"); break;
                case 15: ask("join"); break;
                case 16: ask("joined", upTo(8) - 1, upTo(7)); break;
                case 17: ask("may", upTo(130) - 1); break;
                case 18: ask("meets"); break;
                case 19: ask("meet", upTo(5) - 1, upTo(5)); break;
                case 20: ask("before", i, j); break;
                case 21: ask("way", i, j, upTo(5) - 1); break;
                case 22: ask("first", upTo(10) - 1); break;
                case 23: ask("blink", upTo(4) - 1); break;
                case 24: ask("small", upTo(5)); break;
                case 25: ask(acts <= 45 ? "mend" : "ring"); break;
                case 26: ask(acts <= 45 ? "least" : "habit"); break;
                case 27: fillRow(); break;
                case 28: stir(); break;
                default: lookAtWhatStays(); break;
            }
        }
    }

    private void lookAtBook() {
        int n = ask("status", 4);
        for (int k = -1; k <= n; k++) {
            for (int what = -1; what < 7; what++) {
                ask("joined", k, what);
            }
        }
    }
}
