/** Terms, third part: features, the tree, redundant ones, tops and chains. */
final class FeatureEdges {
    private FeatureEdges() { }

    static void run() {
        Sentences.terms();
        features();
        tree();
        passing();
        generality();
    }

    /** All 40 values by mode 1, those that aren't 0 as feature:value. */
    private static String values(ClauseIndex x, int k, int mode) {
        StringBuilder row = new StringBuilder();
        for (int f = 0; f < 40; f++) {
            int value = x.value(k, f, mode);
            if (value != 0) row.append(row.length() == 0 ? "" : " ").append(f).append(':').append(value);
        }
        return row.toString();
    }

    private static void features() {
        Sentences.sentence("==== 3. FEATURES 0 to 39 of a CLAUSE, t 0 for LITERALS without \"-\", 1 with:");
        Sentences.due("without -", values(Talk.of("p(a)"), 0, 1), "0:1 14:1 30:1");
        Sentences.due("with -", values(Talk.of("-p(a)"), 0, 1), "1:1 15:1 31:1");
        Sentences.due("both", values(Talk.of("p(a)|-p(b)"), 0, 1), "0:1 1:1 14:1 17:1 30:1 33:1");
        Sentences.due("nothing", values(Talk.of(""), 0, 1), "");
        Sentences.due("value 39", Talk.of("-p(e)").value(0, 39, 1), 1);
        Sentences.due("value 40", Talk.of("-p(e)").value(0, 40, 1), -2);
        Sentences.due("value -1", Talk.of("-p(e)").value(0, -1, 1), -2);

        Sentences.sentence("2 k + t: how many LITERALS have PREDICATE k;");
        String[] heads = {"p(x)", "q(x,y)", "r", "s(x)"};
        for (int k = 0; k < 4; k++) {
            for (int t = 0; t < 2; t++) {
                String literal = (t == 0 ? "" : "-") + heads[k];
                Sentences.due(literal, values(Talk.of(literal), 0, 1), 2 * k + t + ":1");
                Sentences.due("5 " + literal, values(Talk.of((literal + "|").repeat(4) + literal), 0, 1), 2 * k + t + ":5");
            }
        }

        Sentences.sentence("8 + 2 k + t: how often SYMBOL k is in such LITERALS;");
        String[] terms = {"f(x)", "g(x)", "h(x,y)", "a", "b", "c", "d", "e"};
        for (int k = 0; k < 8; k++) {
            for (int t = 0; t < 2; t++) {
                String sign = t == 0 ? "" : "-";
                ClauseIndex x = Talk.of(sign + "p(" + terms[k] + ")|" + sign + "q(" + terms[k] + "," + terms[k] + ")|r|-r");
                Sentences.due("how often " + terms[k], x.value(0, 8 + 2 * k + t, 1), 3);
                Sentences.due("how often " + terms[k] + ", the other sign", x.value(0, 8 + 2 * k + 1 - t, 1), 0);
            }
        }
        // as many of one symbol as a clause can have
        Sentences.due("many", Talk.of("q(h(h(h(a,a),h(a,a)),h(h(a,a),h(a,a))),h(h(h(a,a),h(a,a)),h(f(a),h(a,a))))").value(0, 14, 1), 15);
        Sentences.due("many", Talk.of("p(f(f(f(f(a)))))|p(f(f(f(f(a)))))|p(f(f(f(f(a)))))|p(f(f(f(f(a)))))|p(f(f(f(f(a)))))").value(0, 8, 1), 20);

        Sentences.sentence("24 + 2 k + t: its greatest DEPTH there (0: it isn't there).");
        for (int k = 0; k < 8; k++) {
            for (int t = 0; t < 2; t++) {
                String sign = t == 0 ? "" : "-";
                ClauseIndex x = Talk.of(sign + "p(h(x,f(" + terms[k] + ")))|" + sign + "s(" + terms[k] + ")|r|-r");
                Sentences.due("how deep " + terms[k], x.value(0, 24 + 2 * k + t, 1), 3);
                Sentences.due("how deep " + terms[k] + ", the other sign", x.value(0, 24 + 2 * k + 1 - t, 1), 0);
                x = Talk.of("r|-r|" + sign + "q(x," + terms[k] + ")");
                Sentences.due("how deep " + terms[k], x.value(0, 24 + 2 * k + t, 1), 1);
            }
        }
        Sentences.due("5 deep", Talk.of("p(f(g(h(x,f(a)))))|p(a)").value(0, 30, 1), 5);
        Sentences.due("5 deep, the second term", Talk.of("p(a)|-q(a,f(g(h(x,f(a)))))").value(0, 31, 1), 5);

        Sentences.sentence("VALUE by MODE 1: so; by MODE 0: those below 24 are 1, if they are more.");
        ClauseIndex x = Talk.of("p(f(f(a)))|p(a)|-s(e)|-s(g(e))");
        Sentences.due("by mode 1", values(x, 0, 1), "0:2 7:2 8:2 11:1 14:2 23:2 24:2 27:1 30:3 39:2");
        Sentences.due("by mode 0", values(x, 0, 0), "0:1 7:1 8:1 11:1 14:1 23:1 24:2 27:1 30:3 39:2");
        x = Talk.of("-p(e)|-p(e)");
        Sentences.due("value 23 by mode 0", x.value(0, 23, 0), 1);
        Sentences.due("value 23 by mode 1", x.value(0, 23, 1), 2);
        x = Talk.of("p(h(f(x),f(f(x))))");
        Sentences.due("value 24 by mode 0", x.value(0, 24, 0), 3);
        Sentences.due("value 24 by mode 1", x.value(0, 24, 1), 3);

        Sentences.sentence("(If C COVERS D by a MODE, no VALUE of C by it is above that of D.)");
        neverAbove();

        Sentences.sentence("POWER of a FEATURE by a MODE: how many two of the CLAUSES kept have unlike VALUES.");
        Sentences.due("power of none", new ClauseIndex().power(0, 1), 0);
        Sentences.due("power of one", Talk.of("p(a)").power(0, 1), 0);
        Sentences.due("power of two like ones", Talk.of("p(a)", "p(b)").power(0, 1), 0);
        Sentences.due("power of two", Talk.of("p(a)", "r").power(0, 1), 1);
        x = Talk.of("p(a)", "p(a)|p(b)", "r", "p(a)|p(b)");
        Sentences.due("power", x.power(0, 1), 5);
        Sentences.due("power by mode 0", x.power(0, 0), 3);
        // the query is none of those kept
        Talk.query(x, "p(a)|p(b)|p(c)|p(d)|p(e)");
        Sentences.due("power", x.power(0, 1), 5);
        x = Talk.of("r", "r", "r", "r", "r", "r", "r", "r", "r", "r", "r", "r");
        for (int i = 0; i < 12; i++) Talk.add(x, "-r");
        Sentences.due("power of 12 and 12", x.power(4, 1), 144);
    }

    private static void neverAbove() {
        String[] texts = {"", "p(x)", "p(x)|p(y)", "p(f(a))", "p(f(a))|-r", "q(x,y)|q(y,z)", "q(x,x)", "q(f(a),f(a))|p(f(f(b)))",
            "-s(e)|-s(x)", "-s(e)", "p(a)|p(a)|p(b)", "r|r|-r"};
        for (String c : texts) {
            for (String d : texts) {
                ClauseIndex y = Talk.of(c, d);
                for (int mode = 0; mode < 2; mode++) {
                    if (y.covers(0, 1, mode) != 1) continue;
                    int above = 0;
                    for (int f = 0; f < 40; f++) if (y.value(0, f, mode) > y.value(1, f, mode)) above++;
                    Sentences.due("values of " + c + " above those of " + d, above, 0);
                }
            }
        }
        ClauseIndex x = Talk.of("p(a)|p(a)", "p(a)");
        Sentences.due("by sets it covers", x.covers(0, 1, 0), 1);
        Sentences.due("by sets", x.value(0, 0, 0) - x.value(1, 0, 0), 0);
        Sentences.due("by numbers it is above, but doesn't cover", x.covers(0, 1, 1), 0);
    }

    private static String nodes(ClauseIndex x) {
        StringBuilder row = new StringBuilder();
        for (int i = 0; i < x.nodes(); i++) {
            row.append(i == 0 ? "" : " ").append(x.node(i, 0)).append('/').append(x.node(i, 1)).append('/').append(x.node(i, 2))
                .append('/').append(x.node(i, 3));
        }
        return row.toString();
    }

    private static void tree() {
        Sentences.sentence("ORDER: a row of FEATURES (none at first).");
        ClauseIndex x = new ClauseIndex();
        Sentences.due("order at first", Sentences.order(x), "");
        Sentences.due("count(3)", x.count(3), 0);
        x.lay(39);
        x.lay(0);
        x.lay(7);
        Sentences.due("order", Sentences.order(x), "39 0 7");

        Sentences.sentence("THE TREE: a root; below it, by rising VALUES of the first of ORDER (by MODE 1), one for each VALUE that a "
            + "CLAUSE has, below these by the second, and so on;");
        Sentences.due("without clauses and order", nodes(new ClauseIndex()), "0/-1/0/0");
        x = new ClauseIndex();
        x.lay(0);
        Sentences.due("without clauses", nodes(x), "0/-1/0/0");
        x = Talk.of("p(a)|p(b)|p(c)", "r", "p(a)", "-r", "p(x)|p(y)|p(z)");
        Sentences.due("without order", nodes(x), "0/-1/0/5");
        x.lay(0);
        Sentences.due("by 0", nodes(x), "0/-1/3/5 1/0/0/2 1/1/0/1 1/3/0/2");
        // what only the query has makes no node
        Talk.query(x, "p(a)|p(b)");
        Sentences.due("by 0", x.nodes(), 4);
        x.lay(14);
        Sentences.due("by 0, 14", nodes(x), "0/-1/3/5 1/0/1/2 2/0/0/2 1/1/1/1 2/1/0/1 1/3/2/2 2/0/0/1 2/1/0/1");
        // by mode 1, though the order was chosen by mode 0
        x = Talk.of("p(a)", "p(a)|p(a)", "p(a)|p(a)|p(a)", "r");
        x.choose(1, 0);
        Sentences.due("order by mode 0", x.order(0), 0);
        Sentences.due("values by mode 1", nodes(x), "0/-1/4/4 1/0/0/1 1/1/0/1 1/2/0/1 1/3/0/1");

        Sentences.sentence("each CLAUSE kept is at the one at which its VALUES of all of ORDER end (the root without).");
        x = Talk.of("p(a)|p(b)|p(c)", "r", "p(a)", "-r", "p(x)|p(y)|p(z)");
        for (int k = 0; k < 5; k++) Sentences.due("at " + k + " without order", x.at(k), 0);
        x.lay(0);
        int[] byOne = {3, 1, 2, 1, 3};
        for (int k = 0; k < 5; k++) Sentences.due("at " + k, x.at(k), byOne[k]);
        x.lay(14);
        int[] byTwo = {7, 2, 4, 2, 6};
        for (int k = 0; k < 5; k++) Sentences.due("at " + k, x.at(k), byTwo[k]);

        Sentences.sentence("NODES are numbered from the root (0) on, each ahead of those below it, these by rising VALUES, each with all "
            + "below it ahead of the next.");
        Sentences.due("levels and values", nodes(x), "0/-1/3/5 1/0/1/2 2/0/0/2 1/1/1/1 2/1/0/1 1/3/2/2 2/0/0/1 2/1/0/1");
        for (int f : new int[] {6, 7, 20, 21, 22, 23}) x.lay(f);
        Sentences.due("eight levels, four rows", x.nodes(), 1 + 3 + 4 * 7);
        Sentences.due("the first row goes down", x.node(8, 0), 8);
        Sentences.due("then the next one", x.node(9, 0), 1);
        Sentences.due("the last one", x.node(31, 0), 8);
        Sentences.due("one more", x.node(32, 0), -2);
        most();
    }

    /** 24 clauses, all unlike by the first feature or the second, eight levels. */
    private static void most() {
        ClauseIndex x = new ClauseIndex();
        String[] as = {"x", "a", "h(a,a)", "h(a,h(a,a))", "h(h(a,a),h(a,a))"};
        for (int n = 1; n <= 5; n++) {
            for (int i = 0; i < 5 && x.count(0) < 24; i++) Talk.add(x, "p(y)|".repeat(n - 1) + "p(" + as[i] + ")");
        }
        for (int f : new int[] {14, 0, 1, 2, 3, 4, 5, 6}) x.lay(f);
        Sentences.due("nodes", x.nodes(), 1 + 5 + 7 * 24);
        Sentences.due("the last one", x.node(173, 0), 8);
        Sentences.due("at the last one", x.node(173, 3), 1);
        Sentences.due("one more", x.node(174, 0), -2);
        // 14: 0 to 4; each of them has five clauses below, but for the last one with four
        Sentences.due("clauses at nodes below 4", x.node(1 + 4 * 36, 3), 4);
        Sentences.due("at 0", x.at(0), 8);
        Sentences.due("at 23, p four times ahead", x.at(23), 144);
    }

    private static void passing() {
        Sentences.sentence("FORWARD a NODE PASSES, if its VALUE isn't above the QUERY's; BACKWARD, if it isn't below it (both by the MODE).");
        ClauseIndex x = Talk.of("r", "p(a)", "p(a)|p(b)", "p(a)|p(b)|p(c)");
        x.lay(0);
        String[] queries = {"r", "p(x)", "p(x)|p(y)", "p(x)|p(y)|p(z)", "p(x)|p(y)|p(z)|p(u)"};
        int[][] byNumbers = {{1, 15}, {3, 14}, {7, 12}, {15, 8}, {15, 0}};
        int[][] bySets = {{1, 15}, {15, 14}, {15, 14}, {15, 14}, {15, 14}};
        for (int i = 0; i < queries.length; i++) {
            Talk.query(x, queries[i]);
            for (int way = 0; way < 2; way++) {
                Sentences.due(queries[i] + " by numbers", x.candidates(way, 1), byNumbers[i][way]);
                Sentences.due(queries[i] + " by sets", x.candidates(way, 0), bySets[i][way]);
            }
        }
        // depths aren't made 1 by mode 0
        x = Talk.of("p(a)", "p(f(a))", "p(f(f(a)))");
        x.lay(30);
        Talk.query(x, "p(f(a))");
        for (int mode = 0; mode < 2; mode++) {
            Sentences.due("depths forward", x.candidates(0, mode), 3);
            Sentences.due("depths backward", x.candidates(1, mode), 6);
        }

        Sentences.sentence("VISITED: the root, and each that PASSES right below one that is VISITED.");
        Sentences.due("without order", Talk.of("r", "p(a)").visited(0, 1), 1);
        Sentences.due("without clauses", new ClauseIndex().visited(1, 0), 1);
        // what is below one that doesn't pass isn't visited, though it would pass
        x = Talk.of("p(a)", "p(a)|p(b)", "p(x)|p(y)|r", "r");
        x.lay(0);
        x.lay(4);
        Talk.query(x, "p(z)");
        Sentences.due("nodes", x.nodes(), 1 + 3 + 4);
        Sentences.due("visited forward", x.visited(0, 1), 1 + 2 + 1);
        Sentences.due("visited backward", x.visited(1, 1), 1 + 2 + 3);
        Talk.query(x, "");
        Sentences.due("the root and one below it pass", x.visited(0, 1), 2);
        Sentences.due("all pass", x.visited(1, 1), 8);
        Talk.query(x, "p(u)|p(v)|p(w)");
        Sentences.due("the root alone passes", x.visited(1, 1), 1);

        Sentences.sentence("CANDIDATES: the CLAUSES at the last ones of these.");
        Sentences.due("all", x.candidates(0, 1), 1 + 2);
        Sentences.due("none", x.candidates(1, 1), 0);
        Talk.query(x, "p(z)");
        Sentences.due("forward", x.candidates(0, 1), 1);
        Sentences.due("backward", x.candidates(1, 1), 1 + 2 + 4);
        x.unlay();
        x.unlay();
        Sentences.due("at the root", x.candidates(0, 1), 15);
        Sentences.due("at the root", x.candidates(1, 0), 15);
        Sentences.due("without clauses", new ClauseIndex().candidates(0, 0), 0);
    }

    private static void generality() {
        Sentences.sentence("REDUNDANT by a MODE: another CLAUSE kept COVERS it, and it doesn't COVER that, or that has the lower number.");
        Sentences.due("none", new ClauseIndex().redundant(0), 0);
        Sentences.due("one", Talk.of("r").redundant(0), 0);
        Sentences.due("covered by a higher number", Talk.of("p(a)", "p(x)").redundant(0), 1);
        Sentences.due("covered by a lower number", Talk.of("p(x)", "p(a)").redundant(0), 2);
        Sentences.due("both ways: the higher number", Talk.of("p(x)", "p(y)").redundant(1), 2);
        Sentences.due("both ways by sets alone", Talk.of("p(x)|p(y)", "p(x)").redundant(0), 2);
        Sentences.due("by numbers", Talk.of("p(x)|p(y)", "p(x)").redundant(1), 1);
        Sentences.due("24 like ones", Sentences.keeping(24).redundant(0), 0xfffffe);
        ClauseIndex x = Talk.of("r", "r", "r");
        x.remove(0);
        Sentences.due("the lowest that is kept stays", x.redundant(0), 4);
        // the query is none of those kept
        Talk.query(x, "");
        Sentences.due("the query covers all", x.redundant(0), 4);

        Sentences.sentence("MORE GENERAL than another one: it COVERS that, not that it.");
        Sentences.due("p(x), p(a)", Talk.of("p(x)", "p(a)").chain(0, -1), 2);
        Sentences.due("p(x), p(y)", Talk.of("p(x)", "p(y)").chain(0, -1), 1);
        Sentences.due("p(x)|p(y), p(x) by sets", Talk.of("p(x)|p(y)", "p(x)").chain(0, -1), 1);
        Sentences.due("p(x)|p(y), p(x) by numbers", Talk.of("p(x)|p(y)", "p(x)").chain(1, -1), 2);
        Sentences.due("r, -r", Talk.of("r", "-r").chain(1, -1), 1);

        Sentences.sentence("TOPS: those kept than which none is MORE GENERAL.");
        Sentences.due("none", new ClauseIndex().tops(0), 0);
        Sentences.due("like ones are all tops", Talk.of("p(x)", "p(a)", "p(y)").tops(0), 5);
        Sentences.due("24 like ones", Sentences.keeping(24).tops(1), 0xffffff);
        Sentences.due("by sets", Talk.of("p(x)|p(y)", "p(x)", "r").tops(0), 7);
        Sentences.due("by numbers", Talk.of("p(x)|p(y)", "p(x)", "r").tops(1), 6);
        Sentences.due("the query is none", Sentences.asking("", "p(a)", "r").tops(0), 3);

        Sentences.sentence("A CHAIN: CLAUSES kept, each MORE GENERAL than the next.");
        x = Talk.of("p(f(f(a)))", "p(f(f(x)))", "p(f(x))", "p(x)", "");
        int[] row = {4, 3, 2, 1, 0};
        for (int i = 0; i < 5; i++) Sentences.due("chain " + i, x.chain(0, i), row[i]);
        Sentences.due("chain", x.chain(0, -1), 5);
        Sentences.due("the query is none of it", Sentences.asking("", "p(a)", "r").chain(0, -1), 1);
    }
}
