import java.util.ArrayList;
import java.util.List;

/** Promises 33 to 46: what covers the query and what it covers, pairs, and all clauses together. */
final class SearchEdges {
    private static final int LOWEST = Integer.MIN_VALUE;
    private static final int HIGHEST = Integer.MAX_VALUE;
    private static final int[] NO_MODE = {LOWEST, -1, 2, 3, HIGHEST};
    private static final int[] BELOW_NONE = {LOWEST, -3, -2};

    private SearchEdges() { }

    static void run() {
        forward();
        backward();
        visited();
        pairs();
        rate();
        best();
        redundant();
        chain();
        parts();
    }

    private static void forward() {
        Sentences.promise(33);
        Sentences.sentence("Of CLAUSES kept that COVER the QUERY by a MODE, i NONE: how many, or the i-th, by rising numbers.");
        ClauseIndex x = Sentences.asking("p(a)|r", "p(x)|p(y)", "p(b)", "r", "", "p(x)|r|r", "r|p(a)|s(x)", "p(x)|r");
        x.remove(3);
        Sentences.due("how many by sets", x.forward(0, -1), 4);
        Sentences.row("by sets", i -> x.forward(0, i), 0, 0, 2, 4, 6);
        Sentences.due("how many by numbers", x.forward(1, -1), 2);
        Sentences.row("by numbers", i -> x.forward(1, i), 0, 2, 6);
        // the order makes no difference to what covers
        for (int f : new int[] {0, 39, 14, 4}) x.lay(f);
        Sentences.due("how many with an order", x.forward(0, -1), 4);
        Sentences.row("with an order", i -> x.forward(1, i), 0, 2, 6);
        ClauseIndex all = Sentences.keeping(24);
        Sentences.due("how many of 24", all.forward(1, -1), 24);
        Sentences.due("the last of 24", all.forward(1, 23), 23);
        Sentences.due("how many of none", new ClauseIndex().forward(0, -1), 0);
        Sentences.sentence("NONE: not so many;");
        Sentences.each("by sets", i -> x.forward(0, i), -1, 4, 5, 24, HIGHEST);
        Sentences.each("by numbers", i -> x.forward(1, i), -1, 2, 3, 24, HIGHEST);
        Sentences.each("of 24", i -> all.forward(0, i), -1, 24, 25);
        Sentences.due("of none", new ClauseIndex().forward(0, 0), -1);
        Sentences.sentence("-2: the MODE;");
        for (int mode : NO_MODE) {
            Sentences.refused("forward by " + mode, -2, Sentences::busy, y -> y.forward(mode, -1));
            Sentences.refused("forward by " + mode, -2, Sentences::busy, y -> y.forward(mode, -2));
            Sentences.refused("forward by " + mode, -2, Sentences::busy, y -> y.forward(mode, 24));
        }
        Sentences.sentence("-3: i is below NONE.");
        for (int i : BELOW_NONE) {
            Sentences.refused("forward of " + i, -3, Sentences::busy, y -> y.forward(0, i));
            Sentences.refused("forward of " + i, -3, Sentences::busy, y -> y.forward(1, i));
            Sentences.due("forward of none, " + i, new ClauseIndex().forward(0, i), -3);
        }
    }

    private static void backward() {
        Sentences.promise(34);
        Sentences.sentence("Of CLAUSES kept that the QUERY COVERS, so.");
        ClauseIndex x = Sentences.asking("p(x)|p(y)", "p(a)", "p(a)|p(b)", "r", "", "r|p(c)", "p(z)|r|p(a)", "-p(a)");
        x.remove(0);
        Sentences.due("how many by sets", x.backward(0, -1), 3);
        Sentences.row("by sets", i -> x.backward(0, i), 0, 1, 4, 5, -1, -1);
        Sentences.due("how many by numbers", x.backward(1, -1), 2);
        Sentences.row("by numbers", i -> x.backward(1, i), 0, 1, 5, -1, -1);
        for (int f : new int[] {0, 39, 14, 4}) x.lay(f);
        Sentences.due("how many with an order", x.backward(0, -1), 3);
        Sentences.row("with an order", i -> x.backward(1, i), 0, 1, 5, -1);
        Sentences.each("not so many", i -> x.backward(0, i), -1, 3, 24, HIGHEST);
        ClauseIndex all = Sentences.keeping(24);
        Sentences.due("how many of 24", all.backward(1, -1), 24);
        Sentences.due("the last of 24", all.backward(1, 23), 23);
        Sentences.due("not so many", all.backward(1, 24), -1);
        Sentences.due("how many of none", new ClauseIndex().backward(0, -1), 0);
        Sentences.due("of none", new ClauseIndex().backward(0, 0), -1);
        for (int mode : NO_MODE) {
            Sentences.refused("backward by " + mode, -2, Sentences::busy, y -> y.backward(mode, -1));
            Sentences.refused("backward by " + mode, -2, Sentences::busy, y -> y.backward(mode, -2));
            Sentences.refused("backward by " + mode, -2, Sentences::busy, y -> y.backward(mode, 24));
        }
        for (int i : BELOW_NONE) {
            Sentences.refused("backward of " + i, -3, Sentences::busy, y -> y.backward(0, i));
            Sentences.refused("backward of " + i, -3, Sentences::busy, y -> y.backward(1, i));
        }
    }

    /** By 0 and 4: 1 0, 2 0, 2 1, 0 1; the nodes are the root, 0 (1), 1 (0), 2 (0, 1). */
    private static ClauseIndex four() {
        ClauseIndex x = Talk.of("p(a)", "p(a)|p(b)", "p(x)|p(y)|r", "r");
        x.lay(0);
        x.lay(4);
        return x;
    }

    private static void visited() {
        Sentences.promise(35);
        Sentences.sentence("How many NODES are VISITED (way 0 FORWARD, 1 BACKWARD).");
        String[] queries = {"", "r", "p(x)", "p(x)|p(y)", "p(x)|r", "p(x)|p(y)|r|r", "p(x)|p(y)|p(z)"};
        int[][] byNumbers = {{2, 8}, {3, 6}, {4, 6}, {6, 4}, {5, 4}, {8, 2}, {6, 1}};
        int[][] bySets = {{2, 8}, {3, 6}, {6, 6}, {6, 6}, {8, 4}, {8, 4}, {6, 6}};
        for (int i = 0; i < queries.length; i++) {
            ClauseIndex x = four();
            Talk.query(x, queries[i]);
            for (int way = 0; way < 2; way++) {
                Sentences.due("visited " + way + " of " + queries[i], x.visited(way, 1), byNumbers[i][way]);
                Sentences.due("visited " + way + " of " + queries[i] + " by sets", x.visited(way, 0), bySets[i][way]);
            }
        }
        Sentences.sentence("-2: the way, the MODE.");
        for (int n : NO_MODE) {
            Sentences.refused("visited, way " + n, -2, Sentences::busy, y -> y.visited(n, 0));
            Sentences.refused("visited, mode " + n, -2, Sentences::busy, y -> y.visited(1, n));
        }

        Sentences.promise(36);
        Sentences.sentence("CANDIDATES, as bits.");
        int[][] candidates = {{0, 15}, {8, 12}, {1, 7}, {3, 6}, {9, 4}, {15, 0}, {3, 0}};
        int[][] candidatesBySets = {{0, 15}, {8, 12}, {3, 7}, {3, 7}, {15, 4}, {15, 4}, {3, 7}};
        for (int i = 0; i < queries.length; i++) {
            ClauseIndex x = four();
            Talk.query(x, queries[i]);
            for (int way = 0; way < 2; way++) {
                Sentences.due("candidates " + way + " of " + queries[i], x.candidates(way, 1), candidates[i][way]);
                Sentences.due("candidates " + way + " of " + queries[i] + " by sets", x.candidates(way, 0), candidatesBySets[i][way]);
            }
        }
        Sentences.due("all 24", Sentences.keeping(24).candidates(0, 1), 0xffffff);
        Sentences.sentence("-2: the way, the MODE.");
        for (int n : NO_MODE) {
            Sentences.refused("candidates, way " + n, -2, Sentences::busy, y -> y.candidates(n, 0));
            Sentences.refused("candidates, mode " + n, -2, Sentences::busy, y -> y.candidates(1, n));
        }

        Sentences.promise(37);
        Sentences.sentence("How many are VISITED, each CLAUSE kept being the QUERY once, together.");
        ClauseIndex x = four();
        Talk.query(x, "p(x)|p(y)|p(z)");
        for (int way = 0; way < 2; way++) {
            for (int mode = 0; mode < 2; mode++) {
                int sum = 0;
                for (int k = 0; k < 4; k++) {
                    ClauseIndex y = four();
                    y.take(k);
                    sum += y.visited(way, mode);
                }
                Sentences.due("total " + way + " " + mode, x.total(way, mode), sum);
            }
        }
        Sentences.due("total(0, 1)", x.total(0, 1), 4 + 6 + 8 + 3);
        Sentences.due("the query stays", x.literals(24), 3);
        Sentences.due("total of none", new ClauseIndex().total(0, 0), 0);
        Sentences.due("total of one", Talk.of("r").total(1, 1), 1);
        Sentences.due("total of 24", Sentences.keeping(24).total(1, 0), 24);
        Sentences.sentence("-2: the way, the MODE.");
        for (int n : NO_MODE) {
            Sentences.refused("total, way " + n, -2, Sentences::busy, y -> y.total(n, 0));
            Sentences.refused("total, mode " + n, -2, Sentences::busy, y -> y.total(1, n));
            Sentences.due("total of none, way " + n, new ClauseIndex().total(n, 0), -2);
        }
    }

    private static void pairs() {
        Sentences.promise(38);
        Sentences.sentence("How many CLAUSES kept a, b (unlike numbers, in either order) are so that no VALUE of a of ORDER is above that of b, what 0; "
            + "so that a COVERS b, 1.");
        ClauseIndex x = four();
        // 10 and 20, 21; 20 and 21; 01 and 21
        Sentences.due("pairs(1, 0)", x.pairs(1, 0), 4);
        // 10, 10, 11, 01: the first two each way, both to 11, 01 to 11
        Sentences.due("pairs(0, 0)", x.pairs(0, 0), 5);
        x.unlay();
        x.unlay();
        Sentences.due("without order all", x.pairs(0, 0), 12);
        Sentences.due("without order all", x.pairs(1, 0), 12);
        // p(a) over p(a)|p(b); r over p(x)|p(y)|r
        Sentences.due("pairs(0, 1)", x.pairs(0, 1), 2);
        Sentences.due("pairs(1, 1)", x.pairs(1, 1), 2);
        Sentences.due("by sets", Talk.of("p(x)|p(y)", "p(z)").pairs(0, 1), 2);
        Sentences.due("by numbers", Talk.of("p(x)|p(y)", "p(z)").pairs(1, 1), 1);
        for (int what = 0; what < 2; what++) {
            Sentences.due("of none", new ClauseIndex().pairs(0, what), 0);
            Sentences.due("of one", Talk.of("r").pairs(0, what), 0);
            Sentences.due("of two like ones", Talk.of("r", "r").pairs(1, what), 2);
            Sentences.due("of 24 like ones", Sentences.keeping(24).pairs(1, what), 552);
        }
        // those that are no more count no more
        ClauseIndex fewer = Talk.of("p(x)", "p(a)", "p(y)");
        for (int mode = 0; mode < 2; mode++) Sentences.due("of three", fewer.pairs(mode, 1), 4);
        fewer.remove(1);
        for (int mode = 0; mode < 2; mode++) Sentences.due("of two", fewer.pairs(mode, 1), 2);
        fewer.remove(0);
        for (int mode = 0; mode < 2; mode++) Sentences.due("of one", fewer.pairs(mode, 1), 0);
        Sentences.sentence("-2: the MODE, what.");
        for (int n : NO_MODE) {
            Sentences.refused("pairs by " + n, -2, Sentences::busy, y -> y.pairs(n, 0));
            Sentences.refused("pairs, " + n, -2, Sentences::busy, y -> y.pairs(0, n));
        }
    }

    private static void rate() {
        Sentences.promise(39);
        Sentences.sentence("pairs(mode, 1) by pairs(mode, 0), as floats (0, if the latter is 0): its bits (as Float.floatToIntBits tells).");
        Sentences.due("of none", new ClauseIndex().rate(0), 0);
        Sentences.due("of one", Talk.of("r").rate(1), 0);
        Sentences.due("1", Talk.of("r", "r").rate(0), 0x3f800000);
        Sentences.due("a half", Talk.of("p(x)", "p(a)").rate(0), 0x3f000000);
        ClauseIndex one = Talk.of("p(x)", "p(a)");
        one.lay(14);
        Sentences.due("pairs are one", one.pairs(1, 0), 1);
        Sentences.due("1 of 1", one.rate(1), 0x3f800000);
        Sentences.due("1 of 1", one.rate(0), 0x3f800000);
        Sentences.due("0 of 2", Talk.of("r", "-r").rate(0), 0);
        ClauseIndex none = Talk.of("p(a)|r", "s(a)|-r");
        none.lay(4);
        none.lay(5);
        Sentences.due("0 of 0", none.rate(1), 0);
        Sentences.due("pairs are none", none.pairs(1, 0), 0);
        // a third, two thirds: 0x3eaaaaab, 0x3f2aaaab
        Sentences.due("a third", Talk.of("p(x)", "p(a)", "p(y)|s(a)").rate(0), 0x3eaaaaab);
        Sentences.due("two thirds", Talk.of("r", "r", "r|p(a)").rate(1), 0x3f2aaaab);
        for (int a = 0; a <= 12; a++) {
            for (int b = 0; b <= 12; b++) {
                for (int c = 0; a + b + c <= 24; c += 5) rateOf(a, b, c);
            }
        }
        Sentences.sentence("-2.");
        for (int mode : NO_MODE) Sentences.refused("rate by " + mode, -2, Sentences::busy, y -> y.rate(mode));
    }

    private static void rateOf(int a, int b, int c) {
        ClauseIndex x = new ClauseIndex();
        String[] texts = {"r", "p(x)", "p(a)"};
        int[] times = {a, b, c};
        for (int i = 0; i < 3; i++) {
            Talk.query(x, texts[i]);
            for (int n = 0; n < times[i]; n++) x.keep();
        }
        x.lay(4);
        int above = x.pairs(1, 1);
        int below = x.pairs(1, 0);
        Sentences.due("rate of " + above + " by " + below, x.rate(1), below == 0 ? 0 : Float.floatToIntBits((float) above / (float) below));
    }

    private static void best() {
        Sentences.promise(40);
        Sentences.sentence("The two FEATURES by which alone, in place of ORDER, pairs(mode, 0) would be least (the lower one first, of like ones the least "
            + "row), what 0: how many pairs, 1, 2: they.");
        String[][] kept = {{}, {"r"}, {"r", "r"}, {"r", "-r"}, {"p(a)", "p(b)", "p(c)"}, {"p(x)|r", "p(a)|p(y)", "p(a)", "r"},
            {"-s(e)", "-s(d)", "-s(f(e))", "q(e,d)"}, {"p(a)|p(b)", "p(a)", "p(f(b))", "r|r", "r"}};
        for (String[] texts : kept) {
            for (int mode = 0; mode < 2; mode++) {
                int[] due = bestByLaying(texts, mode);
                ClauseIndex x = Talk.of(texts);
                for (int round = 0; round < 2; round++) {
                    for (int what = 0; what < 3; what++) Sentences.due("best " + what + " of " + String.join(" ", texts), x.best(mode, what), due[what]);
                    x.lay(39);
                }
                Sentences.due("the order stays", Sentences.order(x), "39");
            }
        }
        Sentences.sentence("-2: the MODE, what.");
        for (int mode : NO_MODE) Sentences.refused("best by " + mode, -2, Sentences::busy, y -> y.best(mode, 0));
        for (int what : new int[] {LOWEST, -1, 3, 4, HIGHEST}) Sentences.refused("best, " + what, -2, Sentences::busy, y -> y.best(0, what));
    }

    private static int[] bestByLaying(String[] texts, int mode) {
        int[] best = {HIGHEST, -1, -1};
        for (int f = 0; f < 40; f++) {
            ClauseIndex x = Talk.of(texts);
            x.lay(f);
            for (int g = f + 1; g < 40; g++) {
                x.lay(g);
                int pairs = x.pairs(mode, 0);
                if (pairs < best[0]) best = new int[] {pairs, f, g};
                x.unlay();
            }
        }
        return best;
    }

    private static void redundant() {
        Sentences.promise(41);
        Sentences.sentence("REDUNDANT ones, as bits.");
        ClauseIndex x = Talk.of("p(x)|p(y)", "p(z)", "p(f(x))", "p(f(a))|p(f(b))", "-r", "-r");
        Sentences.due("by sets", x.redundant(0), 2 + 4 + 8 + 32);
        Sentences.due("by numbers", x.redundant(1), 1 + 4 + 8 + 32);
        Sentences.due("nothing goes by that", x.count(0), 6);
        Talk.add(x, "");
        Sentences.due("nothing covers all", x.redundant(1), 63);
        Sentences.sentence("-2.");
        for (int mode : NO_MODE) Sentences.refused("redundant by " + mode, -2, Sentences::busy, y -> y.redundant(mode));

        Sentences.promise(42);
        Sentences.sentence("All REDUNDANT ones are no more: how many they were.");
        Sentences.due("clean", x.clean(0), 6);
        Sentences.due("count(1)", x.count(1), 64);
        x.undo(2);
        Sentences.due("by numbers", x.clean(1), 4);
        Sentences.due("count(1)", x.count(1), 2 + 16);
        Sentences.due("again", x.clean(1), 0);
        x.undo(1);
        Sentences.due("by sets", x.clean(0), 4);
        Sentences.due("count(1)", x.count(1), 1 + 16);
        Sentences.due("those that stay are what they were", Talk.codes(x, 0), "100 23 100 24");
        Sentences.due("of none", new ClauseIndex().clean(0), 0);
        ClauseIndex all = Sentences.keeping(24);
        Sentences.due("of 24 like ones", all.clean(0), 23);
        Sentences.due("count(1)", all.count(1), 1);
        Sentences.due("the lowest free is 1 then", all.keep(), 1);
        // the query and the order stay
        x = Sentences.asking("s(a)", "r", "r");
        x.lay(7);
        Sentences.due("clean", x.clean(1), 1);
        Sentences.due("the query stays", Talk.codes(x, 24), "106 3");
        Sentences.due("the order stays", Sentences.order(x), "7");
        Sentences.sentence("-2.");
        for (int mode : NO_MODE) Sentences.refused("clean by " + mode, -2, Sentences::busy, y -> y.clean(mode));

        Sentences.promise(43);
        Sentences.sentence("TOPS, as bits.");
        x = Talk.of("p(x)|p(y)", "p(z)", "p(f(x))", "p(f(a))|p(f(b))", "-r", "-r");
        Sentences.due("by sets", x.tops(0), 1 + 2 + 16 + 32);
        Sentences.due("by numbers", x.tops(1), 2 + 16 + 32);
        Talk.add(x, "");
        Sentences.due("nothing is over all", x.tops(0), 64);
        Sentences.due("the 24th alone", top23(), 1 << 23);
        Sentences.sentence("-2.");
        for (int mode : NO_MODE) Sentences.refused("tops by " + mode, -2, Sentences::busy, y -> y.tops(mode));
    }

    private static int top23() {
        ClauseIndex x = new ClauseIndex();
        Talk.query(x, "p(a)");
        for (int i = 0; i < 23; i++) x.keep();
        Talk.add(x, "p(x)");
        return x.tops(1);
    }

    private static void chain() {
        Sentences.promise(44);
        Sentences.sentence("The longest CHAIN, i NONE: how many (0 without CLAUSES), or the i-th, of as long ones the least row.");
        Sentences.due("without clauses", new ClauseIndex().chain(0, -1), 0);
        Sentences.due("of one", Talk.of("r").chain(0, -1), 1);
        Sentences.due("of one", Talk.of("r").chain(0, 0), 0);
        Sentences.due("of 24 like ones", Sentences.keeping(24).chain(0, -1), 1);
        Sentences.due("of 24 like ones", Sentences.keeping(24).chain(0, 0), 0);
        // 1 over 0, 3 over 0, 2 over 4 over 5: the longest begins at 2, though 1 is lower
        ClauseIndex x = Talk.of("p(a)", "p(x)", "", "p(y)", "r", "r|-r");
        x.remove(2);
        Sentences.due("how many", x.chain(0, -1), 2);
        Sentences.row("the least row", i -> x.chain(0, i), 0, 1, 0, -1);
        x.undo(1);
        Sentences.due("how many", x.chain(0, -1), 3);
        Sentences.row("the least row", i -> x.chain(0, i), 0, 2, 1, 0, -1);
        // the least row goes on by the lowest from which the rest is long enough, not by the lowest
        ClauseIndex y = Talk.of("r|p(a)", "r|r|r", "", "r", "r|r", "r|s(a)");
        Sentences.due("how many by numbers", y.chain(1, -1), 4);
        Sentences.row("by numbers", i -> y.chain(1, i), 0, 2, 3, 4, 1, -1);
        Sentences.due("how many by sets", y.chain(0, -1), 3);
        Sentences.row("by sets", i -> y.chain(0, i), 0, 2, 1, 0, -1);
        chainsAmongOthers();
        longest();
        Sentences.sentence("NONE: not so many;");
        Sentences.each("not so many", i -> y.chain(1, i), -1, 4, 5, 24, HIGHEST);
        Sentences.each("without clauses", i -> new ClauseIndex().chain(1, i), -1, 0, 1, HIGHEST);
        Sentences.sentence("-2: the MODE;");
        for (int mode : NO_MODE) {
            Sentences.refused("chain by " + mode, -2, Sentences::busy, z -> z.chain(mode, -1));
            Sentences.refused("chain by " + mode, -2, Sentences::busy, z -> z.chain(mode, -2));
        }
        Sentences.sentence("-3: i is below NONE.");
        for (int i : BELOW_NONE) {
            Sentences.refused("chain of " + i, -3, Sentences::busy, z -> z.chain(0, i));
            Sentences.due("chain without clauses of " + i, new ClauseIndex().chain(0, i), -3);
        }
    }

    private static void chainsAmongOthers() {
        // over all is 0; right below it a short chain of lower numbers and a longer one, told from the top on
        ClauseIndex x = Talk.of("", "r", "p(x)", "p(f(x))", "p(f(f(x)))", "r|-r");
        for (int mode = 0; mode < 2; mode++) {
            int by = mode;
            Sentences.due("how many", x.chain(mode, -1), 4);
            Sentences.row("past the short one", i -> x.chain(by, i), 0, 0, 2, 3, 4, -1);
        }
        // what was the longest one is none any more
        ClauseIndex y = Talk.of("r", "r|-r", "p(x)", "p(f(x))", "p(f(a))");
        Sentences.row("the longest", i -> y.chain(1, i), -1, 3, 2, 3, 4, -1);
        y.remove(4);
        Sentences.row("as long ones", i -> y.chain(1, i), -1, 2, 0, 1, -1);
        y.undo(1);
        Sentences.row("the longest again", i -> y.chain(1, i), -1, 3, 2, 3, 4, -1);
        ClauseIndex z = Talk.of("p(x)", "r", "r|-r", "p(a)");
        Sentences.row("as long ones", i -> z.chain(0, i), -1, 2, 0, 3, -1);
        z.remove(3);
        Sentences.row("the one left", i -> z.chain(0, i), -1, 2, 1, 2, -1);
    }

    /** 24 clauses that are one chain, kept from the least general one on: its row goes down from 23. */
    private static void longest() {
        ClauseIndex x = new ClauseIndex();
        String text = "p(u)|p(v)|p(w)|p(x)|p(y)";
        List<String> texts = new ArrayList<>();
        texts.add("");
        texts.add("p(u)");
        texts.add("p(u)|p(v)");
        texts.add("p(u)|p(v)|p(w)");
        texts.add("p(u)|p(v)|p(w)|p(x)");
        texts.add(text);
        // one variable after another gets f( ) around it, at last a constant within
        for (char v : "uvwxy".toCharArray()) {
            for (int deep = 1; deep <= 3; deep++) {
                text = text.replace("" + v, "f(" + v + ")");
                texts.add(text);
            }
            text = text.replace("" + v, "a");
            texts.add(text);
        }
        int n = 24;
        for (int i = n - 1; i >= 0; i--) Talk.add(x, texts.get(i));
        Sentences.due("24 are kept", x.count(0), n);
        Sentences.due("how many", x.chain(1, -1), n);
        Sentences.row("the row", i -> x.chain(1, i), 0, 23, 22, 21, 20, 19, 18, 17, 16, 15, 14, 13, 12, 11, 10, 9, 8, 7, 6, 5, 4, 3, 2, 1, 0, -1);
    }

    private static void parts() {
        Sentences.promise(45);
        Sentences.sentence("Into how many parts CLAUSES kept fall, two being in one if each COVERS the other one.");
        Sentences.due("of none", new ClauseIndex().parts(0), 0);
        Sentences.due("of one", Talk.of("r").parts(0), 1);
        Sentences.due("of 24 like ones", Sentences.keeping(24).parts(1), 1);
        Sentences.due("one covers, not the other one", Talk.of("p(x)", "p(a)").parts(0), 2);
        ClauseIndex x = Talk.of("p(x)|p(y)", "p(z)", "p(f(x))", "p(f(a))|p(f(b))", "-r", "-r", "p(u)|p(v)|p(w)");
        Sentences.due("by sets", x.parts(0), 4);
        Sentences.due("by numbers", x.parts(1), 6);
        x.remove(0);
        Sentences.due("behind a removal", x.parts(0), 4);
        Sentences.sentence("-2.");
        for (int mode : NO_MODE) Sentences.refused("parts by " + mode, -2, Sentences::busy, y -> y.parts(mode));

        Sentences.promise(46);
        Sentences.sentence("How many CLAUSES kept are ALIKE to one of a lower number.");
        Sentences.due("of none", new ClauseIndex().doubles(), 0);
        Sentences.due("of one", Talk.of("r").doubles(), 0);
        Sentences.due("of 24 like ones", Sentences.keeping(24).doubles(), 23);
        Sentences.due("of three", Talk.of("q(x,y)", "q(x,x)", "q(y,x)", "q(u,z)", "q(v,v)").doubles(), 3);
        Sentences.due("covering isn't enough", Talk.of("p(x)|p(y)", "p(z)", "p(u)|p(u)").doubles(), 0);
        Sentences.due("the query is none of them", Sentences.asking("r", "r").doubles(), 0);
        ClauseIndex y = Talk.of("r", "r");
        y.remove(0);
        Sentences.due("behind a removal", y.doubles(), 0);
    }
}
