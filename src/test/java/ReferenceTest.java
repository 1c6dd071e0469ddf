import java.lang.reflect.Method;
import java.lang.reflect.Modifier;
import java.util.ArrayList;
import java.util.Arrays;
import java.util.List;
import java.util.Random;

/** Random runs of calls on the class and on the plain reference side by side: every answer must be the same. */
public final class ReferenceTest {
    private static final int RUNS = 800;
    /** What an object answers behind as many calls is free. */
    private static final int CALLS = 512;

    private final Random random;
    private final ClauseIndex index = new ClauseIndex();
    private final Reference reference = new Reference();
    private final List<String> told = new ArrayList<>();
    private final int style;
    private final int sceneEvery;
    private int asked;
    private boolean wrong;

    private ReferenceTest(long seed) {
        random = new Random(seed);
        style = random.nextInt(4);
        sceneEvery = random.nextBoolean() ? 12 : 100;
    }

    public static void main(String[] args) throws Exception {
        int runs = args.length > 0 ? Integer.parseInt(args[0]) : RUNS;
        List<Method> calls = new ArrayList<>();
        for (Method m : ClauseIndex.class.getDeclaredMethods()) {
            if (Modifier.isPublic(m.getModifiers())) calls.add(m);
        }
        calls.sort((a, b) -> a.getName().compareTo(b.getName()));
        for (int run = 0; run < runs; run++) {
            ReferenceTest test = new ReferenceTest(run);
            test.go(calls);
            if (test.wrong) System.exit(1);
        }
        System.out.println(runs + " random runs answer as the reference does");
    }

    private void go(List<Method> calls) throws Exception {
        while (asked < CALLS && !wrong) {
            if (random.nextInt(sceneEvery) == 0) {
                scene();
                continue;
            }
            int what = random.nextInt(10);
            if (what < 2) {
                say("add", clause());
            } else if (what < 3) {
                say("query", clause());
            } else if (what < 4) {
                say("apply", spoil((char) ('u' + random.nextInt(6)) + "=" + term(random.nextInt(4))));
            } else {
                Method m = calls.get(random.nextInt(calls.size()));
                // a full house is rare if clean() and remove() come as often as others
                if ((m.getName().equals("clean") || m.getName().equals("remove")) && random.nextInt(4) > 0) continue;
                Integer[] arguments = new Integer[m.getParameterCount()];
                for (int k = 0; k < arguments.length; k++) arguments[k] = argument(m.getName(), k);
                both(m.getName(), arguments);
            }
        }
    }

    /** Calls that tell more together than one by one. */
    private void scene() throws Exception {
        switch (random.nextInt(4)) {
            case 0: factorScene(); break;
            case 1: instanceScene(); break;
            case 2: renamingScene(); break;
            default: limitScene();
        }
    }

    /** Few predicates and names, so that literals meet. */
    private String closeClause(int n, int deep) {
        StringBuilder text = new StringBuilder();
        int kinds = 1 + random.nextInt(3);
        for (int i = 0; i < n; i++) {
            text.append(i == 0 ? "" : "|").append(random.nextInt(6) == 0 ? "-" : "");
            if (random.nextInt(kinds) == 0) text.append("q(").append(term(deep)).append(',').append(term(deep)).append(')');
            else text.append("p(").append(term(deep)).append(')');
        }
        return text.toString();
    }

    private void codesOfQuery() throws Exception {
        int size = look(2);
        for (int i = 0; i <= size; i++) both("code", 24, i);
        both("count", 2);
    }

    private void factorScene() throws Exception {
        say("query", closeClause(2 + random.nextInt(4), 1 + random.nextInt(4)));
        both("image", 1);
        int n = both("literals", 24);
        for (int i = 0; i < n && !wrong; i++) {
            for (int j = 0; j < n; j++) {
                both("factor", 24, i, j);
                codesOfQuery();
                if (random.nextInt(4) > 0) both("restore", 1);
            }
        }
    }

    private void instanceScene() throws Exception {
        String text = closeClause(1 + random.nextInt(5), random.nextInt(3));
        say("query", text);
        both("keep");
        int k = Integer.bitCount(look(1)) - 1;
        for (int i = random.nextInt(3); i >= 0; i--) {
            say("apply", (char) ('u' + random.nextInt(6)) + "=" + term(random.nextInt(3)));
        }
        codesOfQuery();
        both("condensed", 24, 1);
        both("always", 24);
        studyPair(k, 24);
        studyPair(24, k);
        studyPair(24, 24);
    }

    private void studyPair(int a, int b) throws Exception {
        for (int mode = 0; mode < 2; mode++) {
            both("covers", a, b, mode);
            both("ways", a, b, mode);
            for (int i = 0; i < 6; i++) both("way", a, b, mode, i);
            for (int v = 0; v < 6; v++) {
                for (int i = -1; i < 4; i++) both("bound", a, b, mode, v, i);
            }
        }
        both("single", a, b);
        both("alike", a, b);
    }

    /** A clause again, its literals in another row and its variables under other names, at times one too few. */
    private void renamingScene() throws Exception {
        String text = closeClause(1 + random.nextInt(5), random.nextInt(3));
        say("query", text);
        both("keep");
        List<String> literals = new ArrayList<>(Arrays.asList(text.split("\\|")));
        java.util.Collections.shuffle(literals, random);
        List<Character> names = new ArrayList<>(Arrays.asList('u', 'v', 'w', 'x', 'y', 'z'));
        java.util.Collections.shuffle(names, random);
        if (random.nextInt(4) == 0) names.set(random.nextInt(6), names.get(random.nextInt(6)));
        StringBuilder other = new StringBuilder();
        for (char b : String.join("|", literals).toCharArray()) {
            other.append(b >= 'u' && b <= 'z' ? names.get(b - 'u') : (Character) b);
        }
        say("query", other.toString());
        both("alike", 24, Math.max(0, Integer.bitCount(look(1)) - 1));
        both("keep");
        both("doubles");
        both("parts", random.nextInt(2));
    }

    /** Texts and puts that come to 30 symbols or a depth of 5, or a little beyond. */
    private void limitScene() throws Exception {
        StringBuilder text = new StringBuilder();
        for (int i = 0; i < 4; i++) text.append(i == 0 ? "" : "|").append("q(x,h(y,z))");
        if (random.nextBoolean()) text.append("|").append(random.nextInt(3) == 0 ? "q(x,h(y,z))" : "p(f(f(x)))");
        say("query", text.toString());
        for (int i = 0; i < 4; i++) {
            say("apply", (char) ('w' + random.nextInt(4)) + "=" + term(3));
            codesOfQuery();
        }
    }

    private void say(String call, String text) throws Exception {
        int[] w = Talk.words(text);
        for (int i = 0; i < w.length; i += 5) both("feed", w[i], w[i + 1], w[i + 2], w[i + 3], w[i + 4]);
        both(call, text.length());
        if (random.nextInt(3) == 0) {
            both("fault", 0);
            both("fault", 1);
        }
    }

    private int look(int what) throws Exception {
        return both("count", what);
    }

    /** Beyond what an object is used for nothing is asked, and 0 told. */
    private int both(String name, Integer... arguments) throws Exception {
        if (asked >= CALLS) return 0;
        asked++;
        Class<?>[] types = new Class<?>[arguments.length];
        Arrays.fill(types, int.class);
        int got = (int) ClauseIndex.class.getMethod(name, types).invoke(index, (Object[]) arguments);
        Method m = Reference.class.getDeclaredMethod(name, types);
        int due = (int) m.invoke(reference, (Object[]) arguments);
        told.add(name + Arrays.toString(arguments) + " = " + got);
        if (got != due && !wrong) {
            wrong = true;
            for (String line : told) System.out.println("  " + line);
            System.out.println("  due was " + due);
        }
        return got;
    }

    private int argument(String call, int which) throws Exception {
        if (random.nextInt(40) == 0) return random.nextInt();
        if (call.equals("feed")) return random.nextInt();
        if (random.nextInt(30) == 0) return random.nextInt(60) - 10;
        switch (call + which) {
            case "add0": case "query0": case "apply0": return random.nextInt(5) - 1;
            case "value1": case "power0": case "lay0": return random.nextInt(40);
            case "choose0": case "greedy0": return random.nextInt(9);
            case "node0": return random.nextInt(1 + random.nextInt(60));
            case "undo0": return 1 + random.nextInt(1 + random.nextInt(10));
            case "bound3": return random.nextInt(6);
            case "code1": return random.nextInt(1 + random.nextInt(30));
            case "bound4": case "forward1": case "backward1": case "chain1": return random.nextInt(5) - 1;
            case "literal1": case "way3": case "factor1": case "factor2": return random.nextInt(4);
            case "literal2": case "best1": return random.nextInt(3);
            case "node1": return random.nextInt(4);
            case "order0": return random.nextInt(6);
            case "count0": return random.nextInt(6);
            default: return number(call, which);
        }
    }

    private int number(String call, int which) throws Exception {
        boolean isClause = "take remove literals literal code variables always condensed single factor alike value at"
            .contains(call) && which == 0 || which < 2 && "covers ways way bound single alike".contains(call);
        if (!isClause) return random.nextInt(2);
        if (random.nextInt(3) == 0) return 24;
        int bits = look(1);
        int k = random.nextInt(24);
        for (int i = 0; i < 24 && (bits >> k & 1) == 0; i++) k = (k + 1) % 24;
        return k;
    }

    private String clause() {
        StringBuilder text = new StringBuilder();
        int n = style == 3 ? random.nextInt(7) : random.nextInt(5);
        for (int i = 0; i < n; i++) {
            if (i > 0) text.append('|');
            if (random.nextInt(4) == 0) text.append('-');
            int deep = style == 0 ? 1 : style == 1 ? 2 : 1 + random.nextInt(5);
            int which = random.nextInt(style == 0 ? 8 : 10);
            if (which < 3) text.append("p(").append(term(deep)).append(')');
            else if (which < 8) text.append("q(").append(term(deep)).append(',').append(term(deep)).append(')');
            else if (which < 9) text.append("s(").append(term(deep)).append(')');
            else text.append('r');
        }
        return spoil(text.toString());
    }

    private String term(int deep) {
        int kind = random.nextInt(deep > 0 ? 10 : 6);
        if (kind < 4) return String.valueOf((char) ('u' + random.nextInt(style == 1 ? 2 : 6)));
        if (kind < 6) return String.valueOf((char) ('a' + random.nextInt(style == 2 ? 5 : 2)));
        if (kind < 7) return "f(" + term(deep - 1) + ")";
        if (kind < 8) return "g(" + term(deep - 1) + ")";
        return "h(" + term(deep - 1) + "," + term(deep - 1) + ")";
    }

    /** Mostly the text itself, at times with a byte put, changed or dropped; never more than the tape holds. */
    private String spoil(String text) {
        StringBuilder t = new StringBuilder(text);
        if (random.nextInt(8) == 0) {
            int at = random.nextInt(t.length() + 1);
            char b = "pqrsfghabcdeuvwxyz(),|-=\u00ff".charAt(random.nextInt(25));
            switch (random.nextInt(4)) {
                case 0: t.insert(at, b); break;
                case 1: if (at < t.length()) t.setCharAt(at, b); break;
                case 2: if (at < t.length()) t.deleteCharAt(at); break;
                default: t.setLength(at);
            }
        }
        if (t.length() > 100) t.setLength(100);
        return t.toString();
    }
}
