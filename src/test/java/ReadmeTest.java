import java.lang.reflect.Method;
import java.lang.reflect.Modifier;
import java.nio.file.Files;
import java.nio.file.Path;
import java.util.ArrayList;
import java.util.List;
import java.util.Set;
import java.util.TreeSet;
import java.util.regex.Matcher;
import java.util.regex.Pattern;

/** The README's evening: each call there answers what is said behind it. Runs from the project's folder. */
public final class ReadmeTest {
    private static final Pattern CALL = Pattern.compile("(?m)^cup\\.(\\w+)\\((.*)\\); +// (-?\\d+): .*$");

    public static void main(String[] args) throws Exception {
        List<String> blocks = blocks(Files.readString(Path.of("README.md")));
        Due.is("blocks of Java", blocks.size(), 2);
        if (blocks.size() == 2) {
            tellStandsHere(blocks.get(0));
            evening(blocks.get(1));
        }
        Due.close();
    }

    private static List<String> blocks(String readme) {
        List<String> found = new ArrayList<>();
        Matcher block = Pattern.compile("(?s)```java\n(.*?)```").matcher(readme);
        while (block.find()) {
            found.add(block.group(1));
        }
        return found;
    }

    /** Word by word as the README has it. */
    static void tell(OneCup cup, String text) {
        int had = cup.status(5);
        for (int from = 0; from < text.length(); from += 20) {
            int[] four = new int[5];
            for (int k = 0; k < 20; k++) {
                int sign = from + k < text.length() ? text.charAt(from + k) : ' ';
                four[k / 4] = four[k / 4] << 8 | sign;
            }
            cup.feed(four[0], four[1], four[2], four[3], four[4]);
        }
        cup.end(had + text.length());
    }

    private static void tellStandsHere(String block) throws Exception {
        String here = Files.readString(Path.of("src/test/java/ReadmeTest.java"));
        String indented = block.replaceAll("(?m)^(?=.)", "    ");
        Due.is("tell stands here as in the README", here.contains(indented) ? 1 : 0, 1);
    }

    private static void evening(String block) throws Exception {
        OneCup cup = new OneCup();
        tell(cup, literals(block));
        Set<String> asked = new TreeSet<>(Set.of("feed", "end"));
        Matcher call = CALL.matcher(block);
        int calls = 0;
        while (call.find()) {
            calls++;
            asked.add(call.group(1));
            Due.is("cup." + call.group(1) + "(" + call.group(2) + ")", ask(cup, call.group(1), call.group(2)),
                Integer.parseInt(call.group(3)));
        }
        Due.is("calls told", calls, block.split("(?m)^cup\\.", -1).length - 1);
        for (Method m : OneCup.class.getDeclaredMethods()) {
            if (Modifier.isPublic(m.getModifiers())) {
                Due.is("the README uses " + m.getName(), asked.contains(m.getName()) ? 1 : 0, 1);
            }
        }
    }

    /** The text told: what stands between quotes. */
    private static String literals(String block) {
        StringBuilder text = new StringBuilder();
        Matcher quoted = Pattern.compile("\"([^\"]*)\"").matcher(block);
        while (quoted.find()) {
            text.append(quoted.group(1));
        }
        return text.toString();
    }

    private static int ask(OneCup cup, String name, String told) throws Exception {
        String[] words = told.isEmpty() ? new String[0] : told.split(", ");
        for (Method m : OneCup.class.getDeclaredMethods()) {
            if (!m.getName().equals(name) || m.getParameterCount() != words.length) {
                continue;
            }
            Object[] values = new Object[words.length];
            for (int k = 0; k < words.length; k++) {
                values[k] = valueOf(m.getParameterTypes()[k], words[k]);
            }
            return (Integer) m.invoke(cup, values);
        }
        Due.is("there is a call " + name + " of " + words.length, 0, 1);
        return Due.NOTHING;
    }

    private static Object valueOf(Class<?> type, String word) {
        if (type == boolean.class) {
            return Boolean.valueOf(word);
        }
        return type == long.class ? (Object) Long.valueOf(word) : (Object) Integer.valueOf(word);
    }
}
