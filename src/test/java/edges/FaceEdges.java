import java.io.IOException;
import java.lang.reflect.Constructor;
import java.lang.reflect.Field;
import java.lang.reflect.Method;
import java.lang.reflect.Modifier;
import java.nio.file.Files;
import java.nio.file.Path;
import java.util.ArrayList;
import java.util.Collection;
import java.util.List;
import java.util.TreeSet;
import java.util.regex.Matcher;
import java.util.regex.Pattern;

/** What stands ahead of the document's terms: what the class is for, its public face, and which calls belong together. */
final class FaceEdges {
    private static final Path CLASS_TEXT = Path.of("src/main/java/ClauseIndex.java");

    private FaceEdges() { }

    static void run() throws IOException {
        Sentences.head("What it is");
        clausesAndCovering();
        numbersAndTree();
        allClausesAndBack();
        manyCalls();
        face();
        groups();
    }

    private static void clausesAndCovering() {
        Sentences.sentence("An index of clauses by which a clause that is more general is found:");
        ClauseIndex x = Sentences.asking("p(f(a))|r", "s(x)", "p(f(x))", "p(f(b))");
        Sentences.row("forward(0, i)", i -> x.forward(0, i), -1, 1, 1, -1);

        Sentences.sentence("clauses told as texts, their literals, symbols, variables;");
        Sentences.due("literals", x.literals(24), 2);
        Sentences.due("codes", Talk.codes(x, 1), "100 0 23");
        Sentences.due("variables", x.variables(1), 8);

        Sentences.sentence("one that covers another one by putting terms for variables, by sets or by numbers of literals, in which ways, by what;");
        ClauseIndex two = Sentences.asking("q(a,b)", "q(x,b)|q(a,y)");
        Sentences.due("by sets", two.covers(0, 24, 0), 1);
        Sentences.due("by numbers", two.covers(0, 24, 1), 0);
        Sentences.due("ways", two.ways(0, 24, 0), 1);
        Sentences.row("way", i -> two.way(0, 24, 0, i), 0, 0, 0, -2);
        Sentences.due("put for x", two.bound(0, 24, 0, 3, 0), 3);
        Sentences.due("put for y", two.bound(0, 24, 0, 4, 0), 4);
    }

    private static void numbersAndTree() {
        Sentences.sentence("numbers of each clause that can but grow by that,");
        ClauseIndex grown = Talk.of("p(f(x))|p(y)", "p(f(f(a)))|p(b)|-r");
        Sentences.due("covers", grown.covers(0, 1, 1), 1);
        for (int mode = 0; mode < 2; mode++) {
            for (int f = 0; f < 40; f++) {
                Sentences.due("feature " + f + " isn't less", grown.value(0, f, mode) <= grown.value(1, f, mode) ? 1 : 0, 1);
            }
        }

        Sentences.sentence("a tree of some of these, gone along both ways for those that could cover, or be covered, judged exactly then;");
        ClauseIndex x = Sentences.asking("p(f(a))", "p(x)", "p(f(b))", "q(x,y)", "p(f(a))|r");
        x.lay(0);
        x.lay(8);
        Sentences.due("those that could cover", x.candidates(0, 1), 15);
        Sentences.due("those that could be covered", x.candidates(1, 1), 10);
        Sentences.row("forward", i -> x.forward(1, i), -1, 1, 0, -1);
        Sentences.row("backward", i -> x.backward(1, i), -1, 1, 3, -1);

        Sentences.sentence("which numbers part clauses best, how many come through in vain;");
        ClauseIndex parted = Talk.of("p(a)", "p(b)");
        Sentences.due("best", parted.best(1, 0), 0);
        Sentences.due("the one", parted.best(1, 1), 14);
        Sentences.due("the other one", parted.best(1, 2), 16);
        parted.lay(14);
        Sentences.due("those that come through", parted.pairs(1, 0), 1);
        Sentences.due("not in vain", parted.pairs(1, 1), 0);
    }

    private static void allClausesAndBack() {
        Sentences.sentence("clauses that are alike but for names, that are always true, the fewest literals that say the same;");
        ClauseIndex x = Talk.of("q(x,y)|r", "r|q(y,z)", "s(x)|-s(x)", "p(x)|p(a)");
        Sentences.due("alike", x.alike(0, 1), 1);
        Sentences.due("always", x.always(2), 1);
        Sentences.due("condensed", x.condensed(3, 1), 2);

        Sentences.sentence("which are spare, which are most general, the longest row of ever less general ones;");
        ClauseIndex y = Talk.of("p(f(a))", "p(f(x))", "p(x)", "r");
        Sentences.due("redundant", y.redundant(0), 3);
        Sentences.due("tops", y.tops(0), 12);
        Sentences.row("chain", i -> y.chain(0, i), -1, 3, 2, 1, 0, -1);

        Sentences.sentence("terms put for variables; undone, images to go on from. ==== 1.");
        ClauseIndex z = Sentences.asking("p(x)");
        z.image(0);
        Sentences.due("apply", Talk.apply(z, "x=a"), 1);
        Sentences.due("keep", z.keep(), 0);
        Sentences.due("undo", z.undo(1), 0);
        Sentences.due("count(0)", z.count(0), 0);
        Sentences.due("restore", z.restore(0), 0);
        Sentences.due("the query", Talk.codes(z, 24), "100 23");
    }

    /** The last of 512 calls still answers as it is due. */
    private static void manyCalls() {
        Sentences.sentence("An object is used for at most 512 calls after it has been made; what later calls answer is free.");
        ClauseIndex x = new ClauseIndex();
        x.feed(0x70287829, 0, 0, 0, 0);
        x.query(4);
        for (int i = 0; i < 254; i++) {
            Sentences.due("keep", x.keep(), 0);
            Sentences.due("remove", x.remove(0), 0);
        }
        x.keep();
        Sentences.due("the 512th call", x.undo(10), 0);
    }

    // ---- the face

    private static void face() {
        Sentences.head("The public face");
        String text = Sentences.under("The public face");
        if (text.isEmpty()) return;
        Sentences.sentence(text);
        Sentences.due("the class", Modifier.toString(ClauseIndex.class.getModifiers()) + " class ClauseIndex",
            text.substring(0, text.indexOf(" {")));
        TreeSet<String> due = new TreeSet<>();
        Matcher m = Pattern.compile("public [^;]*;").matcher(text.substring(text.indexOf('{')));
        while (m.find()) due.add(withoutNames(m.group()));
        Sentences.due("how many the document tells", due.size(), 51);
        Sentences.due("all that others see", String.join("\n", visible()), String.join("\n", due));
        for (var promise : Sentences.calls().entrySet()) {
            String call = withoutNames("public " + promise.getValue() + ";");
            Sentences.due(promise.getKey() + " is of the face: " + call, due.contains(call) ? 1 : 0, 1);
        }
        Sentences.due("each promise tells a call", Sentences.calls().size(), 50);
    }

    /** Parameters' names are not kept in a compiled class. */
    private static String withoutNames(String told) {
        return told.replaceAll("int \\w+(?=[,)])", "int");
    }

    private static Collection<String> visible() {
        TreeSet<String> found = new TreeSet<>();
        for (Constructor<?> c : ClauseIndex.class.getDeclaredConstructors()) {
            if (!Modifier.isPrivate(c.getModifiers())) found.add(Modifier.toString(c.getModifiers()) + " ClauseIndex" + types(c.getParameterTypes()));
        }
        for (Method c : ClauseIndex.class.getDeclaredMethods()) {
            if (!Modifier.isPrivate(c.getModifiers())) {
                found.add(Modifier.toString(c.getModifiers()) + " " + c.getReturnType() + " " + c.getName() + types(c.getParameterTypes()));
            }
        }
        for (Field f : ClauseIndex.class.getDeclaredFields()) {
            if (!Modifier.isPrivate(f.getModifiers())) {
                found.add(Modifier.toString(f.getModifiers()) + " " + f.getType() + " " + f.getName() + " = " + ClauseIndex.NONE + ";");
            }
        }
        return found;
    }

    private static String types(Class<?>[] types) {
        List<String> names = new ArrayList<>();
        for (Class<?> type : types) names.add(type.toString());
        return "(" + String.join(", ", names) + ");";
    }

    /** Which calls stand together, under which words, and that they stand in the document's order. */
    private static void groups() throws IOException {
        Sentences.terms();
        String text = Files.readString(CLASS_TEXT);
        Matcher m = Pattern.compile("Ahead of the calls (.*?) the interface says: (---- [a-z, ]+)\\.").matcher(Sentences.under("Terms"));
        int from = 0;
        while (m.find()) {
            Sentences.sentence(m.group());
            int words = text.indexOf("// " + m.group(2) + "\n");
            Sentences.due(m.group(2) + " stands behind what is ahead of it", words > from ? 1 : 0, 1);
            from = words;
            for (String name : m.group(1).replace("`", "").split(", ")) {
                int call = text.indexOf("public int " + name + "(");
                Sentences.due(name + " stands behind what is ahead of it", call > from ? 1 : 0, 1);
                from = call;
            }
        }
    }
}
