import java.io.IOException;
import java.nio.file.Files;
import java.nio.file.Path;
import java.util.ArrayList;
import java.util.LinkedHashMap;
import java.util.List;
import java.util.Map;
import java.util.function.Supplier;
import java.util.function.ToIntFunction;
import java.util.regex.Matcher;
import java.util.regex.Pattern;

/**
 * The document's sentences, and what is checked of each: a test says which sentence it is about, in the document's
 * own words. At the end every word of the document but for what it doesn't promise must have been some test's sentence.
 */
final class Sentences {
    private static final Path DOC = Path.of("../shared/DOC.md");

    private static final Map<String, String> TEXTS = new LinkedHashMap<>();
    private static final Map<String, boolean[]> SEEN = new LinkedHashMap<>();
    private static final Map<String, String> CALLS = new LinkedHashMap<>();
    private static String section = "";
    private static String sentence = "";
    private static int checksOfIt = 1;
    private static int checks = 0;
    private static int sentences = 0;
    private static int wrong = 0;

    private Sentences() { }

    /** The document by its heads; without the document the calls are checked all the same. */
    static void open() throws IOException {
        if (!Files.isReadable(DOC)) {
            System.out.println("no document at " + DOC + ": its words are not compared");
            return;
        }
        for (String part : Files.readString(DOC).split("\n## ")) {
            int end = part.indexOf('\n');
            String head = part.substring(0, Math.max(end, 0)).replaceAll(":.*", "");
            String text = part.substring(Math.max(end, 0)).replaceAll("```\\w*", "");
            Matcher call = Pattern.compile("^\\s*`([^`]*)`:").matcher(text);
            if (call.find()) {
                CALLS.put(head, call.group(1));
                text = text.substring(call.end());
            }
            TEXTS.put(head, plain(text));
            SEEN.put(head, new boolean[plain(text).length()]);
        }
    }

    /** What stands under a head of the document; empty without the document. */
    static String under(String head) {
        return TEXTS.getOrDefault(head, "");
    }

    /** The call that each promise tells of, by the promise's head; none without the document. */
    static Map<String, String> calls() {
        return CALLS;
    }

    static void head(String name) {
        section = name;
    }

    private static String plain(String text) {
        return text.trim().replaceAll("\\s+", " ");
    }

    static void terms() {
        section = "Terms";
    }

    static void promise(int number) {
        section = "Promise " + number;
    }

    static void sentence(String quote) {
        closeSentence();
        sentence = quote;
        checksOfIt = 0;
        sentences++;
        String text = TEXTS.get(section);
        if (text == null) {
            if (!TEXTS.isEmpty()) fail("has no such section");
            return;
        }
        Matcher m = Pattern.compile(Pattern.quote(plain(quote))).matcher(text);
        boolean[] seen = SEEN.get(section);
        boolean found = false;
        while (m.find() && !found) {
            if (seen[m.start()]) continue;
            found = true;
            for (int i = m.start(); i < m.end(); i++) seen[i] = true;
        }
        if (!found) fail("the document doesn't say so (or a test said it already)");
    }

    private static void closeSentence() {
        if (checksOfIt == 0) fail("nothing is checked of it");
    }

    private static void fail(String what) {
        wrong++;
        System.out.println(section + ", \"" + sentence + "\": " + what);
    }

    static void due(String call, int got, int want) {
        checks++;
        checksOfIt++;
        if (got != want) fail(call + " answered " + got + ", due is " + want);
    }

    static void due(String call, String got, String want) {
        checks++;
        checksOfIt++;
        if (!got.equals(want)) fail(call + " tells " + got + ", due is " + want);
    }

    /** A row of answers, one for each number from the first one on. */
    static void row(String call, ToIntFunction<Integer> ask, int first, int... want) {
        for (int i = 0; i < want.length; i++) due(call + " of " + (first + i), ask.applyAsInt(first + i), want[i]);
    }

    /** The same answer for each of some numbers. */
    static void each(String call, ToIntFunction<Integer> ask, int want, int... numbers) {
        for (int n : numbers) due(call + " of " + n, ask.applyAsInt(n), want);
    }

    /** Of two objects made alike one gets a call that is refused: nothing tells them apart behind it. */
    static void refused(String call, int code, Supplier<ClauseIndex> made, ToIntFunction<ClauseIndex> ask) {
        due(call, ask.applyAsInt(made.get()), code);
        due("all behind " + call, all(behind(made, ask)), all(made));
    }

    /** An object as another one, and behind a call. */
    static Supplier<ClauseIndex> behind(Supplier<ClauseIndex> made, ToIntFunction<ClauseIndex> ask) {
        return () -> {
            ClauseIndex x = made.get();
            ask.applyAsInt(x);
            return x;
        };
    }

    /** The same of a call that reads a text in vain: the tape is empty then, and fault() tells of that text. */
    static void refusedText(String call, int code, Supplier<ClauseIndex> made, String text, ToIntFunction<ClauseIndex> ask) {
        ToIntFunction<ClauseIndex> fedAndAsked = x -> {
            Talk.feed(x, text);
            return ask.applyAsInt(x);
        };
        ClauseIndex asked = made.get();
        due(call + " of " + text, fedAndAsked.applyAsInt(asked), code);
        due("the tape behind " + call, asked.count(5), 0);
        due("all but the tape behind " + call + " of " + text, kept(behind(made, fedAndAsked)), kept(made));
    }

    /**
     * All that an object tells, its tape (of which 7 bytes are read), what can be undone and its images, too. It is made
     * anew for each look, so that none is used for more calls than the document's 512.
     */
    static String all(Supplier<ClauseIndex> made) {
        ClauseIndex x = made.get();
        StringBuilder told = new StringBuilder();
        told.append("fault ").append(x.fault(0)).append(' ').append(x.fault(1)).append('\n');
        int tape = x.count(5);
        int answer = x.query(Math.min(tape, 7));
        told.append("tape ").append(tape).append(' ').append(answer).append(' ').append(x.fault(1)).append(' ').append(Talk.codes(x, 24));
        return told.append('\n').append(kept(made)).toString();
    }

    /** The same without the tape and the fault. */
    static String kept(Supplier<ClauseIndex> made) {
        ClauseIndex first = made.get();
        int undone = first.count(4);
        StringBuilder told = new StringBuilder(now(first));
        for (int n = 1; n <= undone; n++) {
            ClauseIndex x = made.get();
            told.append(n).append(" undone, left ").append(x.undo(n)).append('\n').append(now(x));
        }
        for (int i = 0; i < 2; i++) {
            ClauseIndex x = made.get();
            told.append("image ").append(x.restore(i)).append('\n').append(now(x));
        }
        return told.toString();
    }

    static String now(ClauseIndex x) {
        StringBuilder told = new StringBuilder();
        for (int what = 0; what < 5; what++) told.append(x.count(what)).append(' ');
        told.append("order ").append(order(x)).append(" query ").append(Talk.codes(x, 24));
        int bits = x.count(1);
        for (int k = 0; k < 24; k++) {
            if ((bits >> k & 1) == 1) told.append("; ").append(k).append(": ").append(Talk.codes(x, k));
        }
        return told.append('\n').toString();
    }

    static String order(ClauseIndex x) {
        StringBuilder row = new StringBuilder();
        for (int i = 0; i < 9 && x.order(i) >= 0; i++) row.append(i == 0 ? "" : " ").append(x.order(i));
        return row.toString();
    }

    static ClauseIndex asking(String query, String... kept) {
        ClauseIndex x = Talk.of(kept);
        Talk.query(x, query);
        return x;
    }

    /** As many clauses without literals. */
    static ClauseIndex keeping(int n) {
        ClauseIndex x = new ClauseIndex();
        for (int i = 0; i < n; i++) x.keep();
        return x;
    }

    /** Some of all: clauses, a query, an order, two images, calls that can be undone, bytes on the tape, a fault. */
    static ClauseIndex busy() {
        ClauseIndex x = Talk.of("p(x)", "-q(a,y)|r", "p(f(a))|p(f(b))");
        x.image(1);
        x.lay(3);
        x.lay(30);
        Talk.query(x, "s(z)");
        x.image(0);
        x.remove(1);
        Talk.query(x, "p(u)|p(v)|-r|q(a,b)");
        Talk.apply(x, "u=");
        Talk.feed(x, "p(x)|-r");
        return x;
    }

    /** All numbers taken, and still all the rest. */
    static ClauseIndex full() {
        ClauseIndex x = new ClauseIndex();
        Talk.query(x, "r");
        for (int i = 0; i < 24; i++) x.keep();
        x.lay(4);
        x.image(0);
        Talk.query(x, "p(z)|t");
        Talk.feed(x, "p(x)|-r");
        return x;
    }

    static int close() {
        closeSentence();
        List<String> left = new ArrayList<>();
        SEEN.forEach((head, seen) -> {
            if (head.startsWith("# ") || head.equals("Not promised")) return;
            String text = TEXTS.get(head);
            StringBuilder rest = new StringBuilder();
            for (int i = 0; i < seen.length; i++) if (!seen[i]) rest.append(text.charAt(i));
            if (rest.toString().matches("(?s).*\\w.*")) left.add(head + ": " + rest.toString().trim());
        });
        for (String words : left) {
            wrong++;
            System.out.println("no test says: " + words);
        }
        System.out.println(checks + " checks of " + sentences + " sentences, " + wrong + " wrong");
        return wrong;
    }
}
