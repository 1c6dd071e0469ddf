import java.io.IOException;
import java.lang.reflect.Constructor;
import java.lang.reflect.Field;
import java.lang.reflect.Method;
import java.lang.reflect.Modifier;
import java.nio.file.Files;
import java.nio.file.Path;
import java.util.ArrayList;
import java.util.HashSet;
import java.util.List;
import java.util.Map;
import java.util.Set;
import java.util.TreeMap;
import java.util.TreeSet;
import java.util.regex.Matcher;
import java.util.regex.Pattern;

/** The rules of LANGUAGE.md that can be told by looking at the class and its text. Run from the project's folder. */
public final class LanguageTest {
    private static final String FACE = "feed5 add1 query1 apply1 fault1 take1 keep0 remove1 literals1 literal3 code2 variables1 "
        + "always1 condensed2 covers3 ways3 way4 bound5 single2 factor3 alike2 value3 power2 choose2 greedy2 lay1 unlay0 order1 "
        + "nodes0 node2 at1 forward2 backward2 visited2 candidates2 total2 pairs2 rate1 best2 redundant1 clean1 tops1 chain2 "
        + "parts1 doubles0 undo1 image1 restore1 count1";
    private static final String[] FORBIDDEN = {"throw", "throws", "try", "catch", "finally", "synchronized", "assert", "import",
        "package", "protected", "volatile", "transient", "native", "var", "double", "Object", "Override", "MAX_VALUE", "MIN_VALUE",
        "hashCode", "getClass", "System", "Thread", "String.format", "Float", "->", "::", "goto", "extends"};

    private static int wrong = 0;

    private static void check(boolean holds, String what) {
        if (!holds) {
            wrong++;
            System.out.println("rule broken: " + what);
        }
    }

    public static void main(String[] args) throws IOException {
        face();
        for (Class<?> c : allClasses()) shape(c);
        check(allClasses().size() <= 12, "12 classes at most");
        text();
        System.out.println(wrong == 0 ? "the rules that can be seen are kept" : wrong + " rules broken");
        if (wrong != 0) System.exit(1);
    }

    private static List<Class<?>> allClasses() {
        List<Class<?>> all = new ArrayList<>(List.of(ClauseIndex.class));
        all.addAll(List.of(ClauseIndex.class.getDeclaredClasses()));
        return all;
    }

    private static void face() {
        Class<?> c = ClauseIndex.class;
        check(Modifier.isPublic(c.getModifiers()) && Modifier.isFinal(c.getModifiers()), "1: public and final");
        Set<String> due = new HashSet<>(List.of(FACE.split(" ")));
        Set<String> names = new HashSet<>();
        for (Method m : c.getDeclaredMethods()) {
            if (Modifier.isPrivate(m.getModifiers())) continue;
            check(Modifier.isPublic(m.getModifiers()) && !Modifier.isStatic(m.getModifiers()), "1: " + m);
            check(m.getReturnType() == int.class, "1: " + m);
            for (Class<?> type : m.getParameterTypes()) check(type == int.class, "1: " + m);
            check(due.remove(m.getName() + m.getParameterCount()), "1: not of the face: " + m);
            names.add(m.getName());
        }
        check(due.isEmpty(), "1: missing " + due);
        for (Class<?> each : allClasses()) {
            for (Method m : each.getDeclaredMethods()) {
                check(!names.contains(m.getName()) || Modifier.isPublic(m.getModifiers()), "1: the name of " + m);
            }
        }
        for (Field f : c.getDeclaredFields()) {
            check(Modifier.isPrivate(f.getModifiers()) || f.getName().equals("NONE"), "1: " + f);
        }
        Constructor<?>[] made = c.getDeclaredConstructors();
        check(made.length == 1 && Modifier.isPublic(made[0].getModifiers()) && made[0].getParameterCount() == 0, "1: constructor");
    }

    private static void shape(Class<?> c) {
        check(c == ClauseIndex.class || Modifier.isStatic(c.getModifiers()), "2: " + c);
        check(c == ClauseIndex.class || c.getDeclaredClasses().length == 0, "2: classes inside " + c);
        int fields = 0;
        for (Field f : c.getDeclaredFields()) {
            boolean still = Modifier.isStatic(f.getModifiers());
            check(!still || Modifier.isFinal(f.getModifiers()), "5: " + f);
            if (!still) fields++;
        }
        check(fields <= 20, "11: fields of " + c);
        for (Method m : c.getDeclaredMethods()) {
            check(m.getParameterCount() <= 7, "11: " + m);
            check(!m.isSynthetic(), "2: " + m);
        }
    }

    private static void text() throws IOException {
        String text = Files.readString(Path.of("src/main/java/ClauseIndex.java"));
        for (char sign : text.toCharArray()) check(sign == '\n' || sign >= 32 && sign < 127, "4: sign " + (int) sign);
        String code = text.replaceAll("(?s)/\\*.*?\\*/", "").replaceAll("//.*", "");
        for (String word : FORBIDDEN) {
            boolean letters = Character.isLetter(word.charAt(0));
            Matcher m = Pattern.compile(letters ? "\\b" + Pattern.quote(word) + "\\b" : Pattern.quote(word)).matcher(code);
            check(!m.find(), "forbidden: " + word);
        }
        check(!code.contains("\""), "no texts are needed");
        Matcher library = Pattern.compile("\\b(Integer|Long|Math|Arrays|List|ArrayList)\\.(\\w+)").matcher(code);
        while (library.find()) {
            check(Set.of("bitCount", "max", "min", "floorMod").contains(library.group(2)), "4: " + library.group());
        }
        lengths(text.split("\n"));
        depths(code.split("\n"));
    }

    /** Who calls whom, by names alone; calls that come back to a method that is open are recursion and not counted. */
    private static void depths(String[] lines) {
        Map<String, StringBuilder> bodies = new TreeMap<>();
        StringBuilder body = new StringBuilder();
        for (String line : lines) {
            Matcher head = Pattern.compile("( {4}| {8})[A-Za-z].*?(\\w+)\\([^()]*\\) \\{").matcher(line);
            if (head.matches()) {
                body = bodies.computeIfAbsent(head.group(2), name -> new StringBuilder());
            } else {
                body.append(line).append('\n');
            }
        }
        Map<String, Set<String>> calls = new TreeMap<>();
        bodies.forEach((name, inside) -> {
            Set<String> called = new TreeSet<>();
            Matcher m = Pattern.compile("(\\w+)\\(").matcher(inside);
            while (m.find()) if (bodies.containsKey(m.group(1))) called.add(m.group(1));
            calls.put(name, called);
        });
        check(calls.size() > 150, "the methods are seen");
        for (String name : calls.keySet()) {
            int deep = deepest(name, calls, new HashSet<>());
            check(deep <= 7, "11: calls from " + name + " go " + deep + " deep");
        }
    }

    private static int deepest(String name, Map<String, Set<String>> calls, Set<String> open) {
        if (!open.add(name)) return 0;
        int most = 0;
        for (String next : calls.get(name)) most = Math.max(most, deepest(next, calls, open));
        open.remove(name);
        return most + 1;
    }

    /** Methods begin and end at their own indentation here. */
    private static void lengths(String[] lines) {
        for (int i = 0; i < lines.length; i++) {
            Matcher head = Pattern.compile("( {4}| {8})\\S.*\\) \\{").matcher(lines[i]);
            if (!head.matches()) continue;
            int end = i;
            while (end < lines.length && !lines[end].equals(head.group(1) + "}")) end++;
            check(end - i < 60, "11: too long: " + lines[i]);
        }
        for (String line : lines) check(line.length() <= 130, "a long line: " + line);
    }
}
