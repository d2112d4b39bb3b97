import java.lang.reflect.Constructor;
import java.lang.reflect.Field;
import java.lang.reflect.Method;
import java.lang.reflect.Modifier;
import java.nio.file.Files;
import java.nio.file.Path;
import java.util.Set;
import java.util.TreeSet;
import java.util.regex.Matcher;
import java.util.regex.Pattern;

/** The face of the document, and what of LANGUAGE.md can be seen from outside. Runs from the project's folder. */
public final class RulesTest {
    public static void main(String[] args) throws Exception {
        face();
        members();
        words();
        Due.close();
    }

    /** Every line of the document's face, and no other public member. */
    private static void face() throws Exception {
        String doc = Files.readString(Path.of("../shared/DOC.md"));
        Matcher line = Pattern.compile("(?m)^ {4}public (int (\\w+)|OneCup)\\((.*)\\);$").matcher(doc);
        Set<String> told = new TreeSet<>();
        while (line.find()) {
            String types = line.group(3).replaceAll("(\\w+) \\w+", "$1");
            told.add((line.group(2) == null ? "new" : line.group(2)) + "(" + types + ")");
        }
        Set<String> there = new TreeSet<>();
        for (Method m : OneCup.class.getDeclaredMethods()) {
            if (Modifier.isPublic(m.getModifiers())) {
                there.add(m.getName() + "(" + types(m.getParameterTypes()) + ")");
                Due.is(m.getName() + " tells an int", m.getReturnType() == int.class ? 1 : 0, 1);
            }
        }
        for (Constructor<?> c : OneCup.class.getDeclaredConstructors()) {
            there.add("new(" + types(c.getParameterTypes()) + ")");
        }
        Due.is("calls in the document's face", told.size(), 39);
        if (!told.equals(there)) {
            System.out.println("told " + told + "\nthere " + there);
        }
        Due.is("the face", told.equals(there) ? 1 : 0, 1);
        Due.is("NONE", OneCup.class.getField("NONE").getInt(null), -1);
    }

    private static String types(Class<?>[] all) {
        StringBuilder s = new StringBuilder();
        for (Class<?> t : all) {
            s.append(s.length() > 0 ? ", " : "").append(t.getName());
        }
        return s.toString();
    }

    private static void members() {
        Set<String> names = new TreeSet<>();
        for (Method m : OneCup.class.getDeclaredMethods()) {
            if (Modifier.isPublic(m.getModifiers())) {
                names.add(m.getName());
            }
        }
        for (Method m : OneCup.class.getDeclaredMethods()) {
            boolean open = Modifier.isPublic(m.getModifiers());
            Due.is(m.getName() + " public or private", open || Modifier.isPrivate(m.getModifiers()) ? 1 : 0, 1);
            Due.is(m.getName() + " named anew", open || !names.contains(m.getName()) ? 1 : 0, 1);
        }
        for (Field f : OneCup.class.getDeclaredFields()) {
            Due.is(f.getName() + " private", f.getName().equals("NONE") || Modifier.isPrivate(f.getModifiers()) ? 1 : 0, 1);
        }
        int classes = 1;
        for (Class<?> c : OneCup.class.getDeclaredClasses()) {
            classes++;
            Due.is(c + " static", Modifier.isStatic(c.getModifiers()) ? 1 : 0, 1);
            for (Method m : c.getDeclaredMethods()) {
                Due.is(m + " named anew", names.contains(m.getName()) ? 0 : 1, 1);
                Due.is(m + " parameters", m.getParameterCount() <= 7 ? 1 : 0, 1);
            }
            int fields = 0;
            for (Field f : c.getDeclaredFields()) {
                fields += Modifier.isStatic(f.getModifiers()) ? 0 : 1;
                Due.is(f + " final where static", !Modifier.isStatic(f.getModifiers()) || Modifier.isFinal(f.getModifiers()) ? 1 : 0, 1);
            }
            Due.is(c + " fields", fields <= 20 ? 1 : 0, 1);
        }
        Due.is("classes", classes <= 12 ? 1 : 0, 1);
    }

    private static void words() throws Exception {
        String s = Files.readString(Path.of("src/main/java/OneCup.java"));
        String code = s.replaceAll("(?s)/\\*.*?\\*/", "").replaceAll("//[^\n]*", "");
        for (String word : new String[] {"throw", "throws", "try", "catch", "synchronized", "assert", "instanceof", "package",
            "protected", "Math\\.\\w+Exact", "System\\.(?!arraycopy)\\w+", "MAX_VALUE", "Object", "hashCode", "equals"}) {
            Due.is("the word " + word, Pattern.compile("\\b" + word + "\\b").matcher(code).find() ? 1 : 0, 0);
        }
        Due.is("lambdas", code.contains("->") || code.contains("::") ? 1 : 0, 0);
        Matcher imports = Pattern.compile("(?m)^import (.*);$").matcher(code);
        while (imports.find()) {
            Due.is("import " + imports.group(1), imports.group(1).equals("java.util.Arrays") ? 1 : 0, 1);
        }
        int lines = 0;
        boolean inside = false;
        for (String line : s.split("\n")) {
            Due.is("signs", line.chars().allMatch(c -> c >= 32 && c < 127) ? 1 : 0, 1);
            inside = inside || line.matches(" +[\\w<>\\[\\] ]+\\(.*\\) \\{") && !line.matches(" +(if|for|while|switch|\\} else).*");
            lines = inside ? lines + 1 : 0;
            Due.is("lines of a method at " + line, lines <= 60 ? 1 : 0, 1);
            inside = inside && !line.matches(" {4}(?: {4})?\\}");
        }
    }
}
