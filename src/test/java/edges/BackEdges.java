import java.util.function.Supplier;
import java.util.function.ToIntFunction;

/** Terms, last part: what can be undone, images, refused calls; and the promises of these calls. */
final class BackEdges {
    private static final int LOWEST = Integer.MIN_VALUE;
    private static final int HIGHEST = Integer.MAX_VALUE;

    private BackEdges() { }

    static void run() {
        Sentences.terms();
        whatCanBeUndone();
        howMany();
        imagesAndUndoing();
        refusals();
        undo();
        images();
        counts();
    }

    /** A call that can be undone: one more can be, and undone all is as it was ahead of it. */
    private static void undone(String call, Supplier<ClauseIndex> made, ToIntFunction<ClauseIndex> ask, int answer) {
        ClauseIndex asked = made.get();
        int can = asked.count(4);
        Sentences.due(call, ask.applyAsInt(asked), answer);
        Sentences.due("count(4) behind " + call, asked.count(4), can + 1);
        Sentences.due("undo(1) behind " + call, asked.undo(1), can);
        Supplier<ClauseIndex> undone = Sentences.behind(Sentences.behind(made, ask), x -> x.undo(1));
        Sentences.due("all behind undoing " + call, Sentences.kept(undone), Sentences.kept(made));
    }

    /** A call that isn't refused, and still none that can be undone. */
    private static void notUndone(String call, Supplier<ClauseIndex> made, ToIntFunction<ClauseIndex> ask, int answer) {
        ClauseIndex x = made.get();
        int can = x.count(4);
        Sentences.due(call, ask.applyAsInt(x), answer);
        Sentences.due("count(4) behind " + call, x.count(4), can);
    }

    private static ClauseIndex some() {
        ClauseIndex x = Talk.of("p(x)", "p(a)", "r");
        x.lay(3);
        x.remove(2);
        return x;
    }

    private static void whatCanBeUndone() {
        Sentences.sentence("Calls that changed CLAUSES kept, or ORDER (add(), keep(), remove(), lay(), unlay() that aren't refused;");
        undone("add", BackEdges::some, x -> Talk.add(x, "s(b)"), 2);
        undone("add(0)", BackEdges::some, x -> x.add(0), 2);
        undone("keep", BackEdges::some, x -> x.keep(), 2);
        undone("remove", BackEdges::some, x -> x.remove(0), 1);
        undone("lay", BackEdges::some, x -> x.lay(0), 2);
        undone("unlay", BackEdges::some, x -> x.unlay(), 0);
        notUndone("add of a fault", BackEdges::some, x -> Talk.add(x, "s(b"), -31);
        notUndone("add of too much", BackEdges::some, x -> x.add(1), -3);
        notUndone("keep of a 25th", () -> Sentences.keeping(24), x -> x.keep(), -4);
        notUndone("add of a 25th", () -> Sentences.keeping(24), x -> x.add(0), -4);
        notUndone("remove of none", BackEdges::some, x -> x.remove(2), -2);
        notUndone("lay of the same", BackEdges::some, x -> x.lay(3), -5);
        notUndone("lay of none", BackEdges::some, x -> x.lay(40), -2);
        notUndone("unlay of none", ClauseIndex::new, x -> x.unlay(), -5);
        notUndone("query", BackEdges::some, x -> Talk.query(x, "r"), 1);
        notUndone("take", BackEdges::some, x -> x.take(0), 1);
        notUndone("apply", () -> Sentences.asking("p(x)"), x -> Talk.apply(x, "x=a"), 1);
        notUndone("factor", () -> Sentences.asking("p(x)|p(a)"), x -> x.factor(24, 0, 1), 1);
        notUndone("feed", BackEdges::some, x -> x.feed(0, 0, 0, 0, 0), 20);
        notUndone("image", BackEdges::some, x -> x.image(0), 0);

        Sentences.sentence("clean(), if one went at least;");
        undone("clean", BackEdges::some, x -> x.clean(0), 1);
        undone("clean of all but one", () -> Sentences.keeping(9), x -> x.clean(1), 8);
        notUndone("clean of none", () -> Talk.of("p(a)", "r"), x -> x.clean(0), 0);
        notUndone("clean without clauses", ClauseIndex::new, x -> x.clean(1), 0);
        notUndone("clean by no mode", BackEdges::some, x -> x.clean(2), -2);

        Sentences.sentence("choose(), greedy(), if ORDER is another row then)");
        undone("choose(0)", BackEdges::some, x -> x.choose(0, 0), 1);
        undone("choose(1)", BackEdges::some, x -> x.choose(1, 0), 3);
        undone("greedy(0)", BackEdges::some, x -> x.greedy(0, 0), 2);
        undone("greedy(1)", BackEdges::some, x -> x.greedy(1, 0), 1);
        // the same features in another row, the same beginning with fewer or more behind it
        undone("choose, another row", () -> chosen(30, 14), x -> x.choose(2, 1), 5);
        undone("choose of more", () -> chosen(14), x -> x.choose(2, 1), 5);
        undone("choose of fewer", () -> chosen(14, 30), x -> x.choose(1, 1), 3);
        undone("greedy, another row", () -> chosen(0, 14), x -> x.greedy(2, 1), 1);
        undone("greedy of more", () -> chosen(14), x -> x.greedy(2, 1), 1);
        undone("greedy of fewer", () -> chosen(14, 0), x -> x.greedy(1, 1), 1);
        notUndone("choose, the same row", () -> chosen(14, 30), x -> x.choose(2, 0), 5);
        notUndone("greedy, the same row", () -> chosen(14, 0), x -> x.greedy(2, 0), 1);
        notUndone("choose of none, none laid", ClauseIndex::new, x -> x.choose(0, 0), 1);
        notUndone("greedy of none, none laid", ClauseIndex::new, x -> x.greedy(0, 1), 0);
        notUndone("choose by no mode", BackEdges::some, x -> x.choose(1, 2), -2);
        notUndone("choose of nine", BackEdges::some, x -> x.choose(9, 0), -3);
        notUndone("greedy by no mode", BackEdges::some, x -> x.greedy(1, -1), -2);
        notUndone("greedy of -1", BackEdges::some, x -> x.greedy(-1, 0), -3);
    }

    /** Two clauses that 14 and 30 part alone, and an order. */
    private static ClauseIndex chosen(int... features) {
        ClauseIndex x = Talk.of("p(x)", "p(a)");
        for (int f : features) x.lay(f);
        return x;
    }

    private static void howMany() {
        Sentences.sentence("can be UNDONE each as a whole, the latest first, 10 at most (eldest are forgotten): CLAUSES kept and ORDER.");
        ClauseIndex x = Sentences.keeping(24);
        x.clean(0);
        Sentences.due("count(0)", x.count(0), 1);
        Sentences.due("undo of a call as a whole", x.undo(1), 9);
        Sentences.due("count(1)", x.count(1), 0xffffff);
        x = new ClauseIndex();
        x.choose(8, 0);
        Sentences.due("undo of eight features", x.undo(1), 0);
        Sentences.due("order", Sentences.order(x), "");
        // the latest first
        x = Talk.of("p(x)", "r");
        x.lay(5);
        Sentences.due("undo", x.undo(1), 2);
        Sentences.due("order", Sentences.order(x), "");
        Sentences.due("count(1)", x.count(1), 3);
        Sentences.due("undo", x.undo(1), 1);
        Sentences.due("count(1)", x.count(1), 1);
        // ten, eleven, and far more
        for (int n : new int[] {9, 10, 11, 12, 20, 21, 24}) {
            x = Sentences.keeping(n);
            Sentences.due("count(4) behind " + n, x.count(4), Math.min(n, 10));
            Sentences.due("undo all of " + n, x.undo(Math.min(n, 10)), 0);
            Sentences.due("count(0)", x.count(0), Math.max(0, n - 10));
            Sentences.due("undo one more", x.undo(1), -3);
        }
        x = new ClauseIndex();
        for (int i = 0; i < 120; i++) {
            x.lay(i % 40);
            if (x.count(3) == 8) for (int j = 0; j < 8; j++) x.unlay();
        }
        Sentences.due("count(4) behind hundreds", x.count(4), 10);
        int last = x.order(0);
        Sentences.due("nothing is laid behind 120", last, -1);
        Sentences.due("undo", x.undo(8), 2);
        Sentences.due("order", Sentences.order(x), "32 33 34 35 36 37 38 39");
        Sentences.due("undo", x.undo(2), 0);
        Sentences.due("order", Sentences.order(x), "32 33 34 35 36 37");
        // neither the query nor the tape nor the latest fault goes back
        x = Talk.of("r");
        Talk.query(x, "p(x)");
        x.keep();
        Talk.query(x, "s(t)");
        Talk.query(x, "s(a)");
        Talk.query(x, "s(t)");
        Talk.feed(x, "r");
        Sentences.due("undo", x.undo(2), 0);
        Sentences.due("query", Talk.codes(x, 24), "106 3");
        Sentences.due("count(5)", x.count(5), 20);
        Sentences.due("fault(1)", x.fault(1), 2);
        // undo() itself can't be undone; what comes behind it can
        x.keep();
        Sentences.due("count(4)", x.count(4), 1);
        Sentences.due("undo", x.undo(1), 0);
        Sentences.due("count(0)", x.count(0), 0);
    }

    private static void imagesAndUndoing() {
        Sentences.sentence("IMAGES 0 to 1: these and the QUERY (none at first); nothing can be UNDONE behind.");
        Sentences.due("restore(0) at first", new ClauseIndex().restore(0), -6);
        Sentences.due("restore(1) at first", new ClauseIndex().restore(1), -6);
        for (int i = 0; i < 2; i++) {
            ClauseIndex x = Talk.of("p(x)", "r");
            x.lay(9);
            Talk.query(x, "s(a)");
            String then = "2 3 2 1 ";
            Sentences.due("image(" + i + ")", x.image(i), 0);
            Sentences.due("restore of the other one", x.restore(1 - i), -6);
            x.remove(0);
            x.lay(8);
            Talk.query(x, "r|r");
            x.keep();
            Talk.feed(x, "r");
            Sentences.due("count(4)", x.count(4), 6);
            Sentences.due("restore(" + i + ")", x.restore(i), 0);
            Sentences.due("all", Sentences.now(x), then + "0 order 9 query 106 3; 0: 100 23; 1: 104\n");
            Sentences.due("nothing can be undone", x.undo(1), -3);
            Sentences.due("the tape stays", x.count(5), 20);
            // what comes behind it can be undone, back to the image and no further; the image stays what it is
            x.remove(1);
            x.unlay();
            Sentences.due("count(4)", x.count(4), 2);
            Sentences.due("undo", x.undo(2), 0);
            Sentences.due("all", Sentences.now(x), then + "0 order 9 query 106 3; 0: 100 23; 1: 104\n");
            Sentences.due("nothing more can be undone", x.undo(1), -3);
            x.clean(0);
            x.remove(0);
            Sentences.due("restore again", x.restore(i), 0);
            Sentences.due("all again", Sentences.now(x), then + "0 order 9 query 106 3; 0: 100 23; 1: 104\n");
        }
    }

    private static void refusals() {
        Sentences.sentence("Refused calls answer by a code and change nothing:");
        Sentences.refused("add(-1)", -3, Sentences::busy, x -> x.add(-1));
        Sentences.refused("take(1)", -2, Sentences::busy, x -> x.take(1));
        Sentences.refused("keep()", -4, Sentences::full, x -> x.keep());
        Sentences.refused("undo(11)", -3, Sentences::busy, x -> x.undo(11));

        Sentences.sentence("-2 there is none such; -3 a number can't be; -4 too many; -5 it can't be; -6 it is missing; "
            + "-7 it has no such number;");
        Sentences.due("-2", Sentences.busy().literals(1), -2);
        Sentences.due("-3", Sentences.busy().bound(0, 2, 0, 3, -2), -3);
        Sentences.due("-4", Sentences.full().add(1), -4);
        Sentences.due("-5", Sentences.busy().lay(30), -5);
        Sentences.due("-6", Sentences.busy().code(1, 0), -6);
        Sentences.due("-7", Sentences.busy().code(0, 2), -7);

        Sentences.sentence("-30 less the FAULT: a text (THE TAPE is empty then; nothing else changes).");
        String[] texts = {"p(", "r|r|r|r|r|r", "q(h(h(h(a,b),h(a,b)),h(h(a,b),h(a,b))),h(h(h(a,b),h(a,b)),h(h(a,b),h(a,b))))", "p(f(f(f(f(f(a))))))"};
        Supplier<ClauseIndex> made = () -> {
            ClauseIndex x = Sentences.busy();
            x.query(7);
            return x;
        };
        for (int fault = 1; fault <= 4; fault++) {
            String text = texts[fault - 1];
            Sentences.refusedText("add", -30 - fault, made, text, x -> x.add(text.length()));
            Sentences.refusedText("query", -30 - fault, made, text, x -> x.query(text.length()));
            String put = fault == 2 ? "x=a|" : text.replaceFirst("^p\\(", "x=").replaceFirst("^q\\(", "x=h(");
            int code = fault == 2 ? -31 : -30 - fault;
            Sentences.refusedText("apply", code, made, put, x -> x.apply(put.length()));
        }

        Sentences.sentence("(Of several that which the call tells first; all these ahead of NONE.)");
        tellsFirst();

        Sentences.sentence("A CLAUSE's number: 0 to 23, if one is kept there, or 24.");
        ClauseIndex x = Sentences.keeping(24);
        Sentences.due("literals(0)", x.literals(0), 0);
        Sentences.due("literals(23)", x.literals(23), 0);
        Sentences.due("literals(24)", x.literals(24), 0);
        x.remove(0);
        x.remove(23);
        Sentences.each("literals", k -> x.literals(k), -2, LOWEST, -25, -24, -1, 0, 23, 25, 32, 56, 256 + 24, HIGHEST);
        Sentences.each("literals", k -> x.literals(k), 0, 1, 22, 24);

        Sentences.sentence("The constants: `NONE = -1`: There is none.");
        Sentences.due("NONE", ClauseIndex.NONE, -1);
    }

    private static void tellsFirst() {
        ClauseIndex x = Sentences.busy();
        ClauseIndex full = Sentences.full();
        Sentences.due("add: -3 ahead of -4", full.add(21), -3);
        Sentences.due("add: -3 ahead of -4", full.add(-1), -3);
        Sentences.due("add: -4 ahead of a fault", full.add(8), -4);
        Sentences.due("apply: a fault ahead of -4", Talk.apply(Sentences.asking("p(f(f(f(f(x)))))"), "x=f(a"), -31);
        Sentences.due("code: -2 ahead of -7", x.code(25, -1), -2);
        Sentences.due("code: -6 ahead of -7", x.code(1, -1), -6);
        Sentences.due("way: -2 of i ahead of NONE", x.way(2, 0, 0, 2), -2);
        Sentences.due("bound: -2 of a ahead of -3", x.bound(1, 0, 0, 0, -2), -2);
        Sentences.due("bound: -2 of b ahead of -3", x.bound(0, 1, 0, 0, -2), -2);
        Sentences.due("bound: -2 of the mode ahead of -3", x.bound(0, 0, 2, 0, -2), -2);
        Sentences.due("bound: -2 of v ahead of -3", x.bound(0, 0, 0, 6, -2), -2);
        Sentences.due("bound: -2 of v ahead of NONE", x.bound(2, 0, 0, 6, 0), -2);
        Sentences.due("bound: -3 ahead of NONE", x.bound(2, 0, 0, 0, -2), -3);
        Sentences.due("factor: -2 of j ahead of -5", x.factor(24, 0, 4), -2);
        Sentences.due("choose: -2 ahead of -3", x.choose(9, 2), -2);
        Sentences.due("greedy: -2 ahead of -3", x.greedy(-1, -1), -2);
        Sentences.due("forward: -2 ahead of -3", x.forward(2, -2), -2);
        Sentences.due("backward: -2 ahead of -3", x.backward(2, -2), -2);
        Sentences.due("chain: -2 ahead of -3", x.chain(2, -2), -2);
        Sentences.due("chain: -2 ahead of NONE", x.chain(2, 24), -2);
        Sentences.due("restore: -2 ahead of -6", new ClauseIndex().restore(2), -2);
        x = new ClauseIndex();
        for (int f = 0; f < 8; f++) x.lay(f);
        Sentences.due("lay: -2 ahead of -4", x.lay(40), -2);
        Sentences.due("lay: -4 ahead of -5", x.lay(0), -4);
    }

    private static void undo() {
        Sentences.promise(47);
        Sentences.sentence("n calls (1 to 10) are UNDONE: how many still can be.");
        for (int n = 1; n <= 10; n++) {
            ClauseIndex x = Sentences.keeping(14);
            Sentences.due("undo(" + n + ")", x.undo(n), 10 - n);
            Sentences.due("count(0)", x.count(0), 14 - n);
            Sentences.due("count(4)", x.count(4), 10 - n);
        }
        Sentences.sentence("-3: n, more than can be.");
        for (int n : new int[] {LOWEST, -10, -1, 0, 11, 12, 20, HIGHEST}) {
            Sentences.refused("undo(" + n + ")", -3, () -> Sentences.keeping(14), x -> x.undo(n));
        }
        for (int n = 1; n < 11; n++) {
            int more = n;
            Sentences.refused("undo(" + n + ") of one fewer", -3, () -> Sentences.keeping(more - 1), x -> x.undo(more));
        }
        Sentences.due("undo(1) of a new object", new ClauseIndex().undo(1), -3);
    }

    private static void images() {
        Sentences.promise(48);
        Sentences.sentence("An IMAGE is made: 0.");
        ClauseIndex x = Sentences.busy();
        String then = Sentences.now(x);
        Sentences.due("image(0)", x.image(0), 0);
        Sentences.due("image(1)", x.image(1), 0);
        Sentences.due("nothing else changes", Sentences.now(x), then);
        // over an older one; of nothing at all
        x = Talk.of("r");
        x.image(0);
        x.remove(0);
        Sentences.due("image over an older one", x.image(0), 0);
        x.keep();
        x.restore(0);
        Sentences.due("count(0)", x.count(0), 0);
        Sentences.due("image of nothing", new ClauseIndex().image(1), 0);
        Sentences.sentence("-2.");
        for (int i : new int[] {LOWEST, -2, -1, 2, 3, HIGHEST}) Sentences.refused("image(" + i + ")", -2, Sentences::busy, y -> y.image(i));

        Sentences.promise(49);
        Sentences.sentence("All that is in an IMAGE is as it was: 0.");
        x = Talk.of("p(x)", "r");
        x.lay(9);
        Talk.query(x, "s(a)");
        x.image(0);
        then = Sentences.now(x).replace(" 3 order", " 0 order");
        x.remove(1);
        Talk.query(x, "-r");
        x.choose(8, 1);
        x.image(1);
        String later = Sentences.now(x).replace(" 5 order", " 0 order");
        for (int round = 0; round < 3; round++) {
            Sentences.due("restore(0)", x.restore(0), 0);
            Sentences.due("all", Sentences.now(x), then);
            x.keep();
            Talk.query(x, "");
            x.unlay();
            Sentences.due("restore(1)", x.restore(1), 0);
            Sentences.due("all", Sentences.now(x), later);
            Talk.apply(x, "x=a");
            x.remove(0);
        }
        // what depends on the clauses is told of those that are back
        Sentences.due("restore(0)", x.restore(0), 0);
        Sentences.due("tops", x.tops(0), 3);
        Sentences.due("nodes", x.nodes(), 2);
        x = new ClauseIndex();
        x.image(0);
        Talk.add(x, "p(x)");
        Talk.add(x, "p(a)");
        Sentences.due("tops", x.tops(0), 1);
        x.restore(0);
        Sentences.due("tops of none", x.tops(0), 0);
        Sentences.due("pairs of none", x.pairs(1, 1), 0);
        Sentences.sentence("-2;");
        for (int i : new int[] {LOWEST, -2, -1, 2, 3, HIGHEST}) Sentences.refused("restore(" + i + ")", -2, Sentences::busy, y -> y.restore(i));
        Sentences.sentence("-6: none was made.");
        for (int i = 0; i < 2; i++) {
            int none = i;
            Sentences.refused("restore(" + i + ")", -6, () -> Talk.of("r", "p(a)"), y -> y.restore(none));
            Sentences.refused("restore(" + i + ")", -6, () -> {
                ClauseIndex y = Talk.of("r", "p(a)");
                y.image(1 - none);
                return y;
            }, y -> y.restore(none));
        }
    }

    private static void counts() {
        Sentences.promise(50);
        Sentences.sentence("0 CLAUSES kept, 1 their numbers as bits, 2 SYMBOLS of the QUERY, 3 FEATURES of ORDER, 4 calls that can be UNDONE, "
            + "5 bytes on THE TAPE.");
        Sentences.row("count of a new object", what -> new ClauseIndex().count(what), 0, 0, 0, 0, 0, 0, 0);
        Sentences.row("count", what -> Sentences.busy().count(what), 0, 2, 5, 8, 2, 6, 20);
        ClauseIndex x = Sentences.keeping(24);
        Talk.query(x, "p(f(f(f(f(a)))))|p(f(f(f(f(a)))))|p(f(f(f(f(a)))))|p(f(f(f(f(a)))))|p(f(f(f(f(a)))))");
        x.choose(8, 0);
        for (int i = 0; i < 5; i++) x.feed(0, 0, 0, 0, 0);
        Sentences.row("count, as much as can be", what -> x.count(what), 0, 24, 0xffffff, 30, 8, 10, 100);
        Sentences.sentence("NONE for others.");
        Sentences.each("count", what -> x.count(what), -1, LOWEST, -2, -1, 6, 7, HIGHEST);
    }
}
