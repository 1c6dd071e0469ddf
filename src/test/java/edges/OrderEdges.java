/** Promises 23 to 32: values, powers, the order of features and the nodes of the tree. */
final class OrderEdges {
    private static final int LOWEST = Integer.MIN_VALUE;
    private static final int HIGHEST = Integer.MAX_VALUE;
    private static final int[] NO_MODE = {LOWEST, -1, 2, 3, HIGHEST};
    private static final int[] NO_FEATURE = {LOWEST, -1, 40, 41, HIGHEST};
    private static final int[] NO_SIZE = {LOWEST, -2, -1, 9, 10, HIGHEST};

    private OrderEdges() { }

    static void run() {
        value();
        power();
        choose();
        greedy();
        lay();
        order();
        nodes();
    }

    private static void value() {
        Sentences.promise(23);
        Sentences.sentence("VALUE of a FEATURE of a CLAUSE by a MODE.");
        ClauseIndex x = Talk.of("p(f(f(a)))|-s(e)|-s(e)|p(f(b))");
        x.take(0);
        int[] features = {0, 1, 6, 7, 8, 14, 16, 23, 24, 30, 32, 38, 39};
        int[] byNumbers = {2, 0, 0, 2, 3, 1, 1, 2, 2, 3, 2, 0, 1};
        int[] bySets = {1, 0, 0, 1, 1, 1, 1, 1, 2, 3, 2, 0, 1};
        for (int i = 0; i < features.length; i++) {
            for (int k : new int[] {0, 24}) {
                Sentences.due("value " + features[i] + " by 1", x.value(k, features[i], 1), byNumbers[i]);
                Sentences.due("value " + features[i] + " by 0", x.value(k, features[i], 0), bySets[i]);
            }
        }
        Sentences.sentence("-2.");
        for (int k : new int[] {LOWEST, -1, 1, 3, 23, 25, HIGHEST}) Sentences.refused("value of " + k, -2, Sentences::busy, y -> y.value(k, 0, 0));
        for (int f : NO_FEATURE) Sentences.refused("value " + f, -2, Sentences::busy, y -> y.value(0, f, 0));
        for (int mode : NO_MODE) Sentences.refused("value by " + mode, -2, Sentences::busy, y -> y.value(0, 0, mode));
    }

    private static void power() {
        Sentences.promise(24);
        Sentences.sentence("POWER.");
        ClauseIndex x = Talk.of("-p(e)", "-p(e)|-p(e)", "r", "-p(f(e))");
        Sentences.due("power 1", x.power(1, 1), 5);
        Sentences.due("power 1 by sets", x.power(1, 0), 3);
        Sentences.due("power 39", x.power(39, 1), 5);
        Sentences.due("power 39 by sets", x.power(39, 0), 5);
        Sentences.due("power 0", x.power(0, 1), 0);
        x.remove(2);
        Sentences.due("power behind a removal", x.power(1, 1), 2);
        // 24 clauses of which every two are unlike would be 276; five values of 24 are at most 230
        ClauseIndex y = new ClauseIndex();
        for (int i = 0; i < 24; i++) Talk.add(y, "r|".repeat(i % 5) + "r");
        Sentences.due("power of 24", y.power(4, 1), 276 - 4 * 10 - 6);
        Sentences.due("power of 24 by sets", y.power(4, 0), 0);
        Sentences.sentence("-2.");
        for (int f : NO_FEATURE) Sentences.refused("power " + f, -2, Sentences::busy, z -> z.power(f, 0));
        for (int mode : NO_MODE) Sentences.refused("power by " + mode, -2, Sentences::busy, z -> z.power(0, mode));
    }

    /** Powers by mode 1: 0: 5, 8: 3, 14: 4, 16: 3, 24: 3, 30: 4, 32: 3; by mode 0: 14 and 30: 4, 30 more by its depths. */
    private static ClauseIndex four() {
        return Talk.of("p(a)", "p(a)|p(b)|p(x)", "p(x)|p(y)", "p(f(x))");
    }

    private static void choose() {
        Sentences.promise(25);
        Sentences.sentence("ORDER is the n (0 to 8) FEATURES of the greatest POWER (0, too) by a MODE, the greatest first, of like ones the lowest: "
            + "how many NODES.");
        String[] byNumbers = {"", "0", "0 14", "0 14 30", "0 14 30 8", "0 14 30 8 16", "0 14 30 8 16 24", "0 14 30 8 16 24 32", "0 14 30 8 16 24 32 1"};
        int[] nodes = {1, 4, 8, 12, 16, 20, 24, 28, 32};
        for (int n = 0; n <= 8; n++) {
            ClauseIndex x = four();
            Sentences.due("choose(" + n + ", 1)", x.choose(n, 1), nodes[n]);
            Sentences.due("order of " + n, Sentences.order(x), byNumbers[n]);
            Sentences.due("nodes", x.nodes(), nodes[n]);
        }
        String[] bySets = {"", "14", "14 30", "14 30 8", "14 30 8 16", "14 30 8 16 24", "14 30 8 16 24 32", "14 30 8 16 24 32 0", "14 30 8 16 24 32 0 1"};
        for (int n = 0; n <= 8; n++) {
            ClauseIndex x = four();
            x.lay(39);
            x.choose(n, 0);
            Sentences.due("order of " + n + " by sets", Sentences.order(x), bySets[n]);
        }
        // power 0 alone: the lowest
        ClauseIndex x = new ClauseIndex();
        Sentences.due("choose without clauses", x.choose(8, 0), 1);
        Sentences.due("order", Sentences.order(x), "0 1 2 3 4 5 6 7");
        x = Talk.of("r", "r");
        Sentences.due("choose of like ones", x.choose(3, 1), 4);
        Sentences.due("order", Sentences.order(x), "0 1 2");
        x = Talk.of("r", "-p(e)");
        x.choose(8, 1);
        Sentences.due("order", Sentences.order(x), "1 4 23 39 0 2 3 5");
        Sentences.sentence("-2: the MODE;");
        for (int mode : NO_MODE) {
            Sentences.refused("choose by " + mode, -2, Sentences::busy, y -> y.choose(1, mode));
            Sentences.refused("choose of 9 by " + mode, -2, Sentences::busy, y -> y.choose(9, mode));
            Sentences.refused("choose of -1 by " + mode, -2, Sentences::busy, y -> y.choose(-1, mode));
        }
        Sentences.sentence("-3.");
        for (int n : NO_SIZE) {
            Sentences.refused("choose of " + n, -3, Sentences::busy, y -> y.choose(n, 0));
            Sentences.refused("choose of " + n, -3, Sentences::busy, y -> y.choose(n, 1));
        }
    }

    private static void greedy() {
        Sentences.promise(26);
        Sentences.sentence("ORDER is n (0 to 8) FEATURES, each the one, not in it yet, by which with those ahead of it pairs(mode, 0) is least, "
            + "the lowest: how many pairs are left.");
        for (int mode = 0; mode < 2; mode++) {
            for (int n = 0; n <= 8; n++) {
                ClauseIndex x = four();
                x.lay(39);
                Sentences.due("greedy(" + n + ", " + mode + ")", x.greedy(n, mode), leftStepByStep(n, mode));
                Sentences.due("order", Sentences.order(x), orderStepByStep(n, mode));
                Sentences.due("pairs", x.pairs(mode, 0), leftStepByStep(n, mode));
            }
        }
        // the first: 0 leaves 7 of 12; the best behind it has less power than others
        ClauseIndex x = four();
        Sentences.due("greedy(0, 1)", x.greedy(0, 1), 12);
        Sentences.due("greedy(1, 1)", x.greedy(1, 1), 7);
        Sentences.due("order", Sentences.order(x), "0");
        // nothing is left to part: the lowest that aren't in it yet
        x = new ClauseIndex();
        Sentences.due("greedy without clauses", x.greedy(8, 1), 0);
        Sentences.due("order", Sentences.order(x), "0 1 2 3 4 5 6 7");
        x = Talk.of("r", "p(a)");
        Sentences.due("greedy of two", x.greedy(8, 1), 0);
        Sentences.due("order", Sentences.order(x), "0 4 1 2 3 5 6 7");
        x = Talk.of("r", "r", "r");
        Sentences.due("greedy of like ones", x.greedy(2, 0), 6);
        Sentences.due("greedy of 24 like ones", Sentences.keeping(24).greedy(8, 0), 24 * 23);
        Sentences.sentence("-2: the MODE;");
        for (int mode : NO_MODE) {
            Sentences.refused("greedy by " + mode, -2, Sentences::busy, y -> y.greedy(1, mode));
            Sentences.refused("greedy of 9 by " + mode, -2, Sentences::busy, y -> y.greedy(9, mode));
            Sentences.refused("greedy of -1 by " + mode, -2, Sentences::busy, y -> y.greedy(-1, mode));
        }
        Sentences.sentence("-3.");
        for (int n : NO_SIZE) {
            Sentences.refused("greedy of " + n, -3, Sentences::busy, y -> y.greedy(n, 0));
            Sentences.refused("greedy of " + n, -3, Sentences::busy, y -> y.greedy(n, 1));
        }
    }

    /** The document's words taken as calls: lay each feature behind those found so far, and look at pairs(). */
    private static ClauseIndex stepByStep(int n, int mode) {
        int[] found = new int[n];
        for (int i = 0; i < n; i++) {
            int least = HIGHEST;
            for (int f = 0; f < 40; f++) {
                ClauseIndex x = fourBy(found, i);
                if (x.lay(f) < 0) continue;
                int pairs = x.pairs(mode, 0);
                if (pairs < least) {
                    least = pairs;
                    found[i] = f;
                }
            }
        }
        return fourBy(found, n);
    }

    private static ClauseIndex fourBy(int[] features, int n) {
        ClauseIndex x = four();
        for (int i = 0; i < n; i++) x.lay(features[i]);
        return x;
    }

    private static int leftStepByStep(int n, int mode) {
        return stepByStep(n, mode).pairs(mode, 0);
    }

    private static String orderStepByStep(int n, int mode) {
        return Sentences.order(stepByStep(n, mode));
    }

    private static ClauseIndex laid(int... features) {
        ClauseIndex x = Sentences.busy();
        x.unlay();
        x.unlay();
        for (int f : features) x.lay(f);
        return x;
    }

    private static void lay() {
        Sentences.promise(27);
        Sentences.sentence("A FEATURE comes behind ORDER: how many it has.");
        ClauseIndex x = new ClauseIndex();
        int[] features = {39, 0, 23, 24, 7, 8, 1, 38};
        for (int i = 0; i < 8; i++) {
            Sentences.due("lay " + features[i], x.lay(features[i]), i + 1);
            Sentences.due("order " + i, x.order(i), features[i]);
        }
        Sentences.sentence("-2;");
        for (int f : NO_FEATURE) {
            Sentences.refused("lay " + f, -2, Sentences::busy, y -> y.lay(f));
            Sentences.refused("lay " + f + " behind 8", -2, () -> laid(0, 1, 2, 3, 4, 5, 6, 7), y -> y.lay(f));
        }
        Sentences.sentence("-4: it has 8;");
        for (int f : new int[] {8, 39, 0, 7}) Sentences.refused("lay a ninth, " + f, -4, () -> laid(0, 1, 2, 3, 4, 5, 6, 7), y -> y.lay(f));
        Sentences.sentence("-5: it is in it.");
        for (int f : new int[] {0, 3, 6}) Sentences.refused("lay " + f + " again", -5, () -> laid(0, 1, 2, 3, 4, 5, 6), y -> y.lay(f));
        Sentences.refused("lay 39 again", -5, () -> laid(39), y -> y.lay(39));

        Sentences.promise(28);
        Sentences.sentence("The last of ORDER goes: how many it has.");
        for (int i = 7; i >= 0; i--) {
            Sentences.due("unlay", x.unlay(), i);
            Sentences.due("order(" + i + ")", x.order(i), -1);
            Sentences.due("order(" + (i - 1) + ")", x.order(i - 1), i == 0 ? -1 : features[i - 1]);
        }
        Sentences.due("lay it again", x.lay(39), 1);
        Sentences.sentence("-5: it has none.");
        Sentences.refused("unlay", -5, () -> laid(), y -> y.unlay());
        Sentences.refused("unlay of a new object", -5, ClauseIndex::new, y -> y.unlay());
    }

    private static void order() {
        Sentences.promise(29);
        Sentences.sentence("The i-th of ORDER.");
        Sentences.row("order", i -> laid(9, 3, 39, 0, 1, 2, 4, 5).order(i), 0, 9, 3, 39, 0, 1, 2, 4, 5);
        Sentences.sentence("NONE.");
        Sentences.each("order of eight", i -> laid(9, 3, 39, 0, 1, 2, 4, 5).order(i), -1, LOWEST, -2, -1, 8, 9, HIGHEST);
        Sentences.each("order of two", i -> laid(9, 3).order(i), -1, LOWEST, -1, 2, 3, 7, 8, HIGHEST);
        Sentences.each("order of none", i -> new ClauseIndex().order(i), -1, -1, 0, 1);
    }

    private static void nodes() {
        Sentences.promise(30);
        Sentences.sentence("How many NODES.");
        Sentences.due("nodes of a new object", new ClauseIndex().nodes(), 1);
        Sentences.due("nodes without order", four().nodes(), 1);
        ClauseIndex x = four();
        x.lay(0);
        Sentences.due("nodes", x.nodes(), 4);
        x.lay(1);
        Sentences.due("nodes", x.nodes(), 7);
        x.remove(1);
        Sentences.due("nodes behind a removal", x.nodes(), 5);
        x.undo(1);
        Sentences.due("nodes behind undo", x.nodes(), 7);

        Sentences.promise(31);
        Sentences.sentence("Of a NODE, what 0: how many are above it, 1: its VALUE (NONE: the root), 2: how many are right below it, 3: how many CLAUSES "
            + "are at it or below.");
        x = four();
        Talk.add(x, "r|p(a)");
        x.lay(0);
        x.lay(14);
        // by 0: 1 3 2 1 1, by 14: 1 1 0 0 1
        int[][] rows = {{0, -1, 3, 5}, {1, 1, 2, 3}, {2, 0, 0, 1}, {2, 1, 0, 2}, {1, 2, 1, 1}, {2, 0, 0, 1}, {1, 3, 1, 1}, {2, 1, 0, 1}};
        for (int i = 0; i < rows.length; i++) {
            for (int what = 0; what < 4; what++) Sentences.due("node " + i + ", " + what, x.node(i, what), rows[i][what]);
        }
        Sentences.row("the root of a new object", what -> new ClauseIndex().node(0, what), 0, 0, -1, 0, 0);
        Sentences.row("the root of 24", what -> Sentences.keeping(24).node(0, what), 0, 0, -1, 0, 24);
        Sentences.sentence("-2.");
        for (int i : new int[] {LOWEST, -1, 5, 6, 192, 193, HIGHEST}) Sentences.refused("node " + i, -2, Sentences::busy, y -> y.node(i, 0));
        for (int what : new int[] {LOWEST, -1, 4, 5, HIGHEST}) Sentences.refused("node, " + what, -2, Sentences::busy, y -> y.node(0, what));
        Sentences.due("nodes of it", Sentences.busy().nodes(), 1 + 1 + 2);
        Sentences.due("the last of it", Sentences.busy().node(3, 0), 2);
        Sentences.due("one more", Sentences.busy().node(4, 0), -2);

        Sentences.promise(32);
        Sentences.sentence("The NODE at which a CLAUSE kept is.");
        int[] at = {3, 7, 5, 2, 3};
        for (int k = 0; k < 5; k++) Sentences.due("at " + k, x.at(k), at[k]);
        x.unlay();
        int[] byOne = {1, 3, 2, 1, 1};
        for (int k = 0; k < 5; k++) Sentences.due("at " + k, x.at(k), byOne[k]);
        x.unlay();
        for (int k = 0; k < 5; k++) Sentences.due("at " + k, x.at(k), 0);
        Sentences.due("at 23", Sentences.keeping(24).at(23), 0);
        Sentences.sentence("-2 (24, too).");
        for (int k : new int[] {LOWEST, -1, 1, 3, 23, 24, 25, HIGHEST}) Sentences.refused("at " + k, -2, Sentences::busy, y -> y.at(k));
    }
}
