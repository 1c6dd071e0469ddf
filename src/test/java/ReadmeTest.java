import java.io.IOException;
import java.lang.reflect.Method;
import java.lang.reflect.Modifier;
import java.nio.file.Files;
import java.nio.file.Path;
import java.util.HashMap;
import java.util.Map;
import java.util.regex.Matcher;
import java.util.regex.Pattern;

/** README.md's example is carried out line by line: each answer must be the number that its comment begins with. */
public final class ReadmeTest {
    private static final Pattern LINE = Pattern.compile("(?:int (\\w+) = )?x\\.(\\w+)\\((.*?)\\);\\s*// (-?\\d+):.*");

    private static final Map<String, Integer> NAMES = new HashMap<>(Map.of("ClauseIndex.NONE", ClauseIndex.NONE));
    private static int wrong = 0;

    private ReadmeTest() { }

    public static void main(String[] args) throws IOException, ReflectiveOperationException {
        String readme = Files.readString(Path.of("README.md"));
        int lines = example(readme);
        check(lines >= 10, "the example is seen");
        for (Method m : ClauseIndex.class.getDeclaredMethods()) {
            if (Modifier.isPublic(m.getModifiers())) check(readme.contains("`" + m.getName() + "`"), m.getName() + " is named");
        }
        System.out.println(wrong == 0 ? lines + " lines of the example answer as README.md says" : wrong + " wrong in README.md");
        if (wrong != 0) System.exit(1);
    }

    private static void check(boolean holds, String what) {
        if (!holds) {
            wrong++;
            System.out.println("README.md: not so: " + what);
        }
    }

    private static int example(String readme) throws ReflectiveOperationException {
        Matcher block = Pattern.compile("(?s)```java\n(.*?)```").matcher(readme);
        if (!block.find()) return 0;
        ClauseIndex x = new ClauseIndex();
        int lines = 0;
        for (String line : block.group(1).split("\n")) {
            if (line.equals("ClauseIndex x = new ClauseIndex();")) continue;
            Matcher m = LINE.matcher(line);
            check(m.matches(), "a call with its answer: " + line);
            if (!m.matches()) continue;
            int answer = call(x, m.group(2), m.group(3));
            check(answer == Integer.parseInt(m.group(4)), line + " answered " + answer);
            if (m.group(1) != null) NAMES.put(m.group(1), answer);
            lines++;
        }
        return lines;
    }

    private static int call(ClauseIndex x, String name, String told) throws ReflectiveOperationException {
        String[] words = told.isEmpty() ? new String[0] : told.split(", ");
        Class<?>[] types = new Class<?>[words.length];
        Object[] numbers = new Object[words.length];
        for (int i = 0; i < words.length; i++) {
            types[i] = int.class;
            numbers[i] = NAMES.containsKey(words[i]) ? NAMES.get(words[i]) : Integer.decode(words[i]);
        }
        return (int) ClauseIndex.class.getMethod(name, types).invoke(x, numbers);
    }
}
