/** Promises 10 to 15: one clause by itself. */
final class ClauseEdges {
    private static final int LOWEST = Integer.MIN_VALUE;
    private static final int HIGHEST = Integer.MAX_VALUE;
    /** Numbers under which Sentences.busy() has no clause. */
    private static final int[] NO_CLAUSE = {LOWEST, -24, -1, 1, 3, 22, 23, 25, 26, HIGHEST};

    private ClauseEdges() { }

    static void run() {
        literals();
        codes();
        variablesAndAlways();
        condensed();
    }

    private static void literals() {
        Sentences.promise(10);
        Sentences.sentence("How many LITERALS.");
        ClauseIndex x = Talk.of("", "r", "p(x)|p(x)", "r|r|r", "r|r|r|r", "-r|-r|-r|-r|-r");
        for (int k = 0; k < 6; k++) Sentences.due("literals(" + k + ")", x.literals(k), k);
        Sentences.due("literals(24)", x.literals(24), 0);
        Talk.query(x, "q(f(a),h(x,y))|r");
        Sentences.due("literals(24)", x.literals(24), 2);
        Sentences.sentence("-2.");
        for (int k : NO_CLAUSE) Sentences.refused("literals(" + k + ")", -2, Sentences::busy, y -> y.literals(k));

        Sentences.promise(11);
        Sentences.sentence("Of LITERAL i, what 0: 1 if \"-\" is ahead, else 0, 1: the PREDICATE, 2: how many SYMBOLS.");
        String[] texts = {"p(a)", "-p(f(x))", "q(a,b)", "-q(h(a,b),h(c,d))", "r", "-r", "s(x)", "-s(f(g(f(g(a)))))"};
        int[][] rows = {{0, 0, 2}, {1, 0, 3}, {0, 1, 3}, {1, 1, 7}, {0, 2, 1}, {1, 2, 1}, {0, 3, 2}, {1, 3, 6}};
        for (int i = 0; i < texts.length; i++) {
            for (int place = 0; place < 5; place++) {
                ClauseIndex y = Talk.of("r|".repeat(place) + texts[i] + "|-r".repeat(4 - place));
                for (int what = 0; what < 3; what++) {
                    Sentences.due("literal " + what + " of " + texts[i], y.literal(0, place, what), rows[i][what]);
                }
            }
        }
        String thirty = "q(h(h(h(a,b),h(a,b)),h(h(a,b),h(a,b))),h(h(h(a,b),h(a,b)),h(f(a),h(x,y))))";
        Sentences.due("30 symbols", Sentences.asking(thirty).literal(24, 0, 2), 30);
        Sentences.sentence("-2: the CLAUSE, i, what.");
        for (int k : NO_CLAUSE) Sentences.refused("literal(" + k + ", 0, 0)", -2, Sentences::busy, y -> y.literal(k, 0, 0));
        for (int i : new int[] {LOWEST, -1, 4, 5, HIGHEST}) Sentences.refused("literal(24, " + i + ", 0)", -2, Sentences::busy, y -> y.literal(24, i, 0));
        for (int what : new int[] {LOWEST, -1, 3, 4, HIGHEST}) {
            Sentences.refused("literal(24, 0, " + what + ")", -2, Sentences::busy, y -> y.literal(24, 0, what));
        }
        Sentences.due("literal 0 of nothing", new ClauseIndex().literal(24, 0, 0), -2);
        Sentences.due("literal 5 of five", Sentences.asking("r|r|r|r|r").literal(24, 5, 0), -2);
    }

    private static void codes() {
        Sentences.promise(12);
        Sentences.sentence("The i-th of its CODES.");
        ClauseIndex x = Talk.of("-q(h(a,z),g(e))|s(u)", "");
        int[] codes = {103, 2, 3, 25, 1, 7, 106, 20};
        for (int i = 0; i < codes.length; i++) Sentences.due("code " + i, x.code(0, i), codes[i]);
        x.take(0);
        Sentences.due("code of the query", x.code(24, 7), 20);
        String thirty = "q(h(h(h(a,b),h(a,b)),h(h(a,b),h(a,b))),h(h(h(a,b),h(a,b)),h(f(a),h(x,y))))";
        Sentences.due("the 30th", Sentences.asking(thirty).code(24, 29), 24);
        Sentences.sentence("-2: k is below 0, above 24;");
        for (int k : new int[] {LOWEST, -24, -1, 25, 26, HIGHEST}) {
            Sentences.refused("code(" + k + ", 0)", -2, Sentences::busy, y -> y.code(k, 0));
            Sentences.refused("code(" + k + ", -1)", -2, Sentences::busy, y -> y.code(k, -1));
        }
        Sentences.sentence("-6: none is kept there;");
        for (int k : new int[] {1, 3, 22, 23}) {
            Sentences.refused("code(" + k + ", 0)", -6, Sentences::busy, y -> y.code(k, 0));
            Sentences.refused("code(" + k + ", -1)", -6, Sentences::busy, y -> y.code(k, -1));
        }
        Sentences.due("code(0, 0) of a new object", new ClauseIndex().code(0, 0), -6);
        Sentences.sentence("-7: it hasn't so many, i is below 0.");
        for (int i : new int[] {LOWEST, -2, -1, 8, 9, 30, HIGHEST}) Sentences.refused("code(24, " + i + ")", -7, Sentences::busy, y -> y.code(24, i));
        Sentences.due("code 0 of nothing", x.code(1, 0), -7);
        Sentences.due("code 0 of the query of a new object", new ClauseIndex().code(24, 0), -7);
        Sentences.due("the 31st", Sentences.asking(thirty).code(24, 30), -7);
    }

    private static void variablesAndAlways() {
        Sentences.promise(13);
        Sentences.sentence("Its VARIABLES, as bits.");
        Sentences.due("of nothing", new ClauseIndex().variables(24), 0);
        Sentences.due("none", Talk.of("q(a,h(b,f(c)))|r|s(e)").variables(0), 0);
        Sentences.due("all", Talk.of("q(u,h(v,f(w)))|-s(g(x))|-q(y,z)").variables(0), 63);
        for (int v = 0; v < 6; v++) {
            char name = (char) ('u' + v);
            Sentences.due("" + name, Talk.of("r|-q(" + name + ",f(f(f(f(" + name + ")))))").variables(0), 1 << v);
        }
        ClauseIndex x = Sentences.asking("q(x,y)");
        Talk.apply(x, "x=h(z,y)");
        Sentences.due("behind a put", x.variables(24), 16 + 32);
        Sentences.sentence("-2.");
        for (int k : NO_CLAUSE) Sentences.refused("variables(" + k + ")", -2, Sentences::busy, y -> y.variables(k));

        Sentences.promise(14);
        Sentences.sentence("1, if it is ALWAYS TRUE, else 0.");
        Sentences.due("of nothing", new ClauseIndex().always(24), 0);
        // the two stand anywhere among five
        for (int i = 0; i < 5; i++) {
            for (int j = 0; j < 5; j++) {
                StringBuilder text = new StringBuilder();
                for (int k = 0; k < 5; k++) text.append(k == 0 ? "" : "|").append(k == i ? "p(f(x))" : k == j ? "-p(f(x))" : "-s(x)");
                Sentences.due(text.toString(), Talk.of(text.toString()).always(0), i == j ? 0 : 1);
            }
        }
        Sentences.due("with names that are unlike", Talk.of("q(x,y)|-q(y,x)").always(0), 0);
        x = Sentences.asking("q(x,y)|-q(y,x)");
        Talk.apply(x, "x=y");
        Sentences.due("behind a put", x.always(24), 1);
        Sentences.sentence("-2.");
        for (int k : NO_CLAUSE) Sentences.refused("always(" + k + ")", -2, Sentences::busy, y -> y.always(k));
    }

    private static void condensed() {
        Sentences.promise(15);
        Sentences.sentence("CONDENSED, what 0: how many LITERALS, 1: which (bits, of as few the least).");
        String[] texts = {"", "r", "r|r", "-r|r|-r|r|r", "p(x)|p(y)|p(z)", "p(a)|p(x)|p(a)", "p(x)|p(a)|p(a)|p(b)", "p(x)|p(a)|-p(x)|-p(a)",
            "q(x,y)|q(y,x)|q(u,v)|q(v,u)", "q(u,v)|q(v,u)|q(x,x)|q(a,a)", "p(a)|p(b)|p(c)|p(d)|p(e)", "p(u)|p(v)|p(w)|p(x)|p(e)"};
        int[] bits = {0, 1, 1, 3, 1, 1, 10, 10, 3, 8, 31, 16};
        for (int i = 0; i < texts.length; i++) {
            ClauseIndex x = Talk.of(texts[i]);
            Sentences.due("condensed 0 of " + texts[i], x.condensed(0, 0), Integer.bitCount(bits[i]));
            Sentences.due("condensed 1 of " + texts[i], x.condensed(0, 1), bits[i]);
            x.take(0);
            Sentences.due("condensed 1 of " + texts[i], x.condensed(24, 1), bits[i]);
        }
        Sentences.sentence("-2.");
        for (int k : NO_CLAUSE) {
            Sentences.refused("condensed(" + k + ", 0)", -2, Sentences::busy, y -> y.condensed(k, 0));
            Sentences.refused("condensed(" + k + ", 1)", -2, Sentences::busy, y -> y.condensed(k, 1));
        }
        for (int what : new int[] {LOWEST, -1, 2, 3, HIGHEST}) Sentences.refused("condensed(0, " + what + ")", -2, Sentences::busy, y -> y.condensed(0, what));
    }
}
