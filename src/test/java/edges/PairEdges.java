/** Promises 16 to 22: two clauses, or two literals of one. */
final class PairEdges {
    private static final int LOWEST = Integer.MIN_VALUE;
    private static final int HIGHEST = Integer.MAX_VALUE;
    /** Numbers under which Sentences.busy() has no clause. */
    private static final int[] NO_CLAUSE = {LOWEST, -1, 1, 3, 23, 25, HIGHEST};
    private static final int[] NO_MODE = {LOWEST, -1, 2, 3, HIGHEST};

    private PairEdges() { }

    static void run() {
        covers();
        ways();
        way();
        bound();
        boundRefused();
        single();
        factor();
        factorRefused();
        alike();
    }

    private static void covers() {
        Sentences.promise(16);
        Sentences.sentence("1, if a COVERS b, else 0.");
        ClauseIndex x = Talk.of("p(x)|p(y)", "p(a)", "");
        int[][] bySets = {{1, 1, 0}, {0, 1, 0}, {1, 1, 1}};
        int[][] byNumbers = {{1, 0, 0}, {0, 1, 0}, {1, 1, 1}};
        for (int a = 0; a < 3; a++) {
            for (int b = 0; b < 3; b++) {
                Sentences.due("covers " + a + " " + b, x.covers(a, b, 0), bySets[a][b]);
                Sentences.due("covers " + a + " " + b, x.covers(a, b, 1), byNumbers[a][b]);
            }
        }
        Talk.query(x, "p(a)|p(b)");
        Sentences.due("covers the query", x.covers(0, 24, 1), 1);
        Sentences.due("the query covers", x.covers(24, 0, 1), 0);
        Sentences.due("the query covers itself", x.covers(24, 24, 1), 1);
        Sentences.sentence("-2: a CLAUSE, the MODE.");
        for (int k : NO_CLAUSE) {
            Sentences.refused("covers(" + k + ", 0, 0)", -2, Sentences::busy, y -> y.covers(k, 0, 0));
            Sentences.refused("covers(0, " + k + ", 0)", -2, Sentences::busy, y -> y.covers(0, k, 0));
            Sentences.due("covers(" + k + ", " + k + ", 1)", Sentences.busy().covers(k, k, 1), -2);
        }
        for (int mode : NO_MODE) Sentences.refused("covers by " + mode, -2, Sentences::busy, y -> y.covers(0, 24, mode));
    }

    private static void ways() {
        Sentences.promise(17);
        Sentences.sentence("How many WAYS there are.");
        ClauseIndex x = Talk.of("", "r", "r|r|r|r|r", "p(x)|p(y)|p(z)", "p(a)|p(b)", "p(u)|p(v)|p(w)|p(x)|p(y)");
        int[][] pairs = {{0, 0, 1, 1}, {0, 2, 1, 1}, {2, 0, 0, 0}, {1, 1, 1, 1}, {1, 2, 5, 5}, {2, 1, 1, 0}, {2, 2, 3125, 120}, {3, 4, 8, 0},
            {4, 3, 0, 0}, {4, 4, 1, 1}, {3, 5, 125, 60}, {5, 3, 243, 0}, {5, 5, 3125, 120}};
        for (int[] p : pairs) {
            Sentences.due("ways " + p[0] + " " + p[1], x.ways(p[0], p[1], 0), p[2]);
            Sentences.due("ways " + p[0] + " " + p[1], x.ways(p[0], p[1], 1), p[3]);
        }
        Sentences.sentence("-2.");
        for (int k : NO_CLAUSE) {
            Sentences.refused("ways(" + k + ", 0, 0)", -2, Sentences::busy, y -> y.ways(k, 0, 0));
            Sentences.refused("ways(0, " + k + ", 0)", -2, Sentences::busy, y -> y.ways(0, k, 0));
        }
        for (int mode : NO_MODE) Sentences.refused("ways by " + mode, -2, Sentences::busy, y -> y.ways(0, 24, mode));
    }

    private static void way() {
        Sentences.promise(18);
        Sentences.sentence("By the FIRST WAY which LITERAL of b the i-th one of a is.");
        ClauseIndex x = Talk.of("p(x)|q(x,y)|r", "r|q(a,b)|p(b)|p(a)|q(b,c)");
        int[] row = {2, 4, 0};
        for (int mode = 0; mode < 2; mode++) {
            for (int i = 0; i < 3; i++) Sentences.due("way " + i, x.way(0, 1, mode, i), row[i]);
        }
        Talk.query(x, "p(u)|p(v)");
        Sentences.due("way by sets", x.way(24, 1, 0, 1), 2);
        Sentences.due("way by numbers", x.way(24, 1, 1, 1), 3);
        Sentences.sentence("NONE: a doesn't COVER b;");
        for (int i = 0; i < 5; i++) Sentences.due("way " + i, x.way(1, 0, 0, i), -1);
        Talk.query(x, "p(a)");
        Sentences.due("by numbers it doesn't", Talk.of("p(x)|p(y)", "p(a)").way(0, 1, 1, 0), -1);
        Sentences.due("to nothing", Talk.of("r", "").way(0, 1, 0, 0), -1);
        Sentences.sentence("-2: a CLAUSE, the MODE, i.");
        for (int k : NO_CLAUSE) {
            Sentences.refused("way(" + k + ", 0, 0, 0)", -2, Sentences::busy, y -> y.way(k, 0, 0, 0));
            Sentences.refused("way(0, " + k + ", 0, 0)", -2, Sentences::busy, y -> y.way(0, k, 0, 0));
        }
        for (int mode : NO_MODE) Sentences.refused("way by " + mode, -2, Sentences::busy, y -> y.way(0, 24, mode, 0));
        for (int i : new int[] {LOWEST, -1, 1, 4, 5, HIGHEST}) Sentences.refused("way of " + i, -2, Sentences::busy, y -> y.way(0, 24, 0, i));
        Sentences.due("i of a, not of b", x.way(0, 1, 0, 3), -2);
        Sentences.due("i, though a doesn't cover b", x.way(1, 0, 0, 5), -2);
        Sentences.due("nothing has no literal 0", Talk.of("", "r").way(0, 1, 0, 0), -2);
    }

    private static void bound() {
        Sentences.promise(19);
        Sentences.sentence("By the FIRST WAY of what is put for a VARIABLE (0 to 5) of a, i NONE: how many SYMBOLS, else its i-th CODE.");
        ClauseIndex x = Talk.of("q(u,z)|p(h(w,x))", "p(h(f(y),b))|q(h(a,f(z)),x)");
        int[][] terms = {{2, 3, 0, 25}, null, {0, 24}, {4}, null, {23}};
        for (int v = 0; v < 6; v++) {
            for (int mode = 0; mode < 2; mode++) {
                Sentences.due("size of " + v, x.bound(0, 1, mode, v, -1), terms[v] == null ? -1 : terms[v].length);
                for (int i = 0; terms[v] != null && i < terms[v].length; i++) Sentences.due("code " + i + " of " + v, x.bound(0, 1, mode, v, i), terms[v][i]);
            }
        }
        x = Talk.of("p(x)|p(y)", "p(a)|p(f(b))");
        Sentences.due("by sets", x.bound(0, 1, 0, 4, 0), 3);
        Sentences.due("by numbers", x.bound(0, 1, 1, 4, 0), 0);
        Sentences.due("by numbers", x.bound(0, 1, 1, 4, -1), 2);
        // the largest term that can be put
        x = Talk.of("p(x)", "p(h(h(h(h(a,b),h(a,b)),h(h(a,b),h(a,b))),h(h(h(a,b),h(a,b)),h(f(a),f(c)))))");
        Sentences.due("size", x.bound(0, 1, 1, 3, -1), 29);
        Sentences.due("the last code", x.bound(0, 1, 1, 3, 28), 5);
        Sentences.due("one more", x.bound(0, 1, 1, 3, 29), -1);
        // an attempt in vain leaves nothing behind
        x = Talk.of("q(x,y)|p(y)", "q(a,b)|q(c,d)|p(d)");
        Sentences.due("x", x.bound(0, 1, 0, 3, 0), 5);
        Sentences.due("y", x.bound(0, 1, 0, 4, 0), 6);
        Sentences.due("x of itself", x.bound(0, 0, 1, 3, 0), 23);

        Sentences.sentence("NONE: a doesn't COVER b, has no such VARIABLE, not so many;");
        Sentences.due("a doesn't cover b", x.bound(1, 0, 0, 3, -1), -1);
        Sentences.due("a doesn't cover b", x.bound(1, 0, 0, 3, 0), -1);
        Sentences.due("a doesn't cover b by numbers", Talk.of("p(x)|p(y)", "p(a)").bound(0, 1, 1, 3, -1), -1);
        for (int v : new int[] {0, 1, 2, 5}) {
            Sentences.due("no variable " + v, x.bound(0, 1, 0, v, -1), -1);
            Sentences.due("no variable " + v, x.bound(0, 1, 0, v, 0), -1);
        }
        for (int i : new int[] {1, 2, 30, HIGHEST}) Sentences.due("not so many: " + i, x.bound(0, 1, 0, 3, i), -1);
        Sentences.due("no variables", Talk.of("", "r").bound(0, 1, 0, 0, -1), -1);
    }

    private static void boundRefused() {
        Sentences.sentence("-2: a CLAUSE, the MODE, v;");
        for (int k : NO_CLAUSE) {
            Sentences.refused("bound(" + k + ", ..)", -2, Sentences::busy, y -> y.bound(k, 0, 0, 0, -1));
            Sentences.refused("bound(0, " + k + ", ..)", -2, Sentences::busy, y -> y.bound(0, k, 0, 0, -2));
        }
        for (int mode : NO_MODE) Sentences.refused("bound by " + mode, -2, Sentences::busy, y -> y.bound(0, 24, mode, 3, -1));
        for (int v : new int[] {LOWEST, -1, 6, 20, 23, HIGHEST}) {
            Sentences.refused("bound of " + v, -2, Sentences::busy, y -> y.bound(0, 24, 0, v, -1));
            Sentences.due("bound of " + v + ", not covered", Sentences.busy().bound(24, 0, 0, v, -2), -2);
        }
        Sentences.sentence("-3: i is below NONE.");
        for (int i : new int[] {LOWEST, -3, -2}) {
            Sentences.refused("bound of i " + i, -3, Sentences::busy, y -> y.bound(0, 24, 0, 3, i));
            Sentences.due("no such variable, i " + i, Sentences.busy().bound(0, 24, 0, 0, i), -3);
            Sentences.due("not covered, i " + i, Sentences.busy().bound(24, 0, 0, 0, i), -3);
        }
    }

    private static void single() {
        Sentences.promise(20);
        Sentences.sentence("LITERALS of a (bits) each of which by itself, as a CLAUSE, COVERS b.");
        ClauseIndex x = Talk.of("p(x)|q(x,x)|-r|q(a,y)|p(b)", "p(a)|q(a,b)|r", "", "r|r|r|r|r", "-q(x,x)|p(c)");
        Sentences.due("some", x.single(0, 1), 1 + 8);
        // each by itself, though not together
        Sentences.due("not together", x.covers(0, 1, 0), 0);
        Sentences.due("to itself", x.single(0, 0), 31);
        Sentences.due("all", x.single(3, 1), 31);
        Sentences.due("of nothing", x.single(2, 0), 0);
        Sentences.due("to nothing", x.single(0, 2), 0);
        Sentences.due("of nothing to nothing", x.single(2, 2), 0);
        Sentences.due("none", x.single(4, 1), 0);
        Sentences.due("the first", x.single(0, 4), 1);
        // what is put for one has to do with none of the others
        Sentences.due("unlike terms for one variable", Talk.of("p(x)|s(x)", "p(a)|s(b)").single(0, 1), 3);
        Sentences.due("the last alone", Talk.of("p(a)|p(b)|p(c)|p(d)|p(e)", "p(e)").single(0, 1), 16);
        Sentences.sentence("-2.");
        for (int k : NO_CLAUSE) {
            Sentences.refused("single(" + k + ", 0)", -2, Sentences::busy, y -> y.single(k, 0));
            Sentences.refused("single(0, " + k + ")", -2, Sentences::busy, y -> y.single(0, k));
        }
    }

    private static void made(String text, int i, int j, int answer, String codes) {
        ClauseIndex x = Sentences.asking(text, text);
        Sentences.due("factor " + text, x.factor(0, i, j), answer);
        Sentences.due("codes of " + text, Talk.codes(x, 24), codes);
        Sentences.due("the clause stays", x.literals(0), answer + 1);
        x.take(0);
        Sentences.due("factor of the query " + text, x.factor(24, i, j), answer);
        Sentences.due("codes of " + text, Talk.codes(x, 24), codes);
    }

    private static void factor() {
        Sentences.promise(21);
        Sentences.sentence("LITERALS i and j of a CLAUSE are made the SAME by putting TERMS for VARIABLES: their TERMS from the left, SYMBOL by "
            + "SYMBOL, as they are then: where they are unlike, if that of i is a VARIABLE, that of j is put for it in the whole CLAUSE, "
            + "else, if that of j is one, that of i.");
        made("p(x)|p(y)", 0, 1, 1, "100 24");
        made("p(x)|p(y)", 1, 0, 1, "100 23");
        made("p(x)|p(a)", 0, 1, 1, "100 3");
        made("p(x)|p(a)", 1, 0, 1, "100 3");
        made("p(x)|p(x)", 0, 1, 1, "100 23");
        made("p(x)|-r|p(f(y))|q(x,y)", 0, 2, 3, "100 0 24 105 102 0 24 24");
        made("p(x)|-r|p(f(y))|q(x,y)", 2, 0, 3, "105 100 0 24 102 0 24 24");
        // as they are then: x is y already where the second terms are looked at
        made("q(x,x)|q(y,a)|s(y)", 0, 1, 2, "102 3 3 106 3");
        made("q(x,y)|q(y,x)|s(h(x,y))", 0, 1, 2, "102 24 24 106 2 24 24");
        made("q(x,y)|q(y,x)|s(h(x,y))", 1, 0, 2, "102 23 23 106 2 23 23");
        made("q(h(x,y),x)|q(h(y,z),a)", 0, 1, 1, "102 2 3 3 3");
        made("q(x,f(x))|q(g(y),f(g(a)))", 0, 1, 1, "102 1 3 0 1 3");
        // six variables
        made("q(h(u,v),w)|q(h(x,y),z)|q(u,z)", 0, 1, 2, "102 2 23 24 25 102 23 25");

        Sentences.sentence("The QUERY is the CLAUSE then, without j: how many LITERALS it has.");
        made("r|r", 0, 1, 1, "104");
        made("r|r", 1, 0, 1, "104");
        made("r|p(a)|r|p(b)|-r", 2, 0, 4, "100 3 104 100 4 105");
        made("r|p(a)|r|p(b)|-r", 0, 2, 4, "104 100 3 100 4 105");
        made("p(a)|p(b)|p(c)|p(x)|p(d)", 4, 3, 4, "100 3 100 4 100 5 100 6");
        made("p(x)|s(x)|s(y)|s(z)|p(f(a))", 0, 4, 4, "100 0 3 106 0 3 106 24 106 25");
        ClauseIndex x = Sentences.asking("s(u)", "p(x)|p(a)|q(x,y)");
        int can = x.count(4);
        x.factor(0, 0, 1);
        Sentences.due("nothing is kept", x.count(0), 1);
        Sentences.due("nothing more can be undone", x.count(4), can);
    }

    private static void notMade(String text, int i, int j, int code) {
        Sentences.refused("factor " + text, code, () -> {
            ClauseIndex x = Sentences.busy();
            x.query(7);
            Talk.add(x, text);
            return x;
        }, x -> x.factor(1, i, j));
    }

    private static void factorRefused() {
        Sentences.sentence("-2: the CLAUSE, i, j, i is j;");
        for (int k : NO_CLAUSE) Sentences.refused("factor(" + k + ", 0, 1)", -2, Sentences::busy, y -> y.factor(k, 0, 1));
        for (int n : new int[] {LOWEST, -1, 4, 5, HIGHEST}) {
            Sentences.refused("factor(24, " + n + ", 0)", -2, Sentences::busy, y -> y.factor(24, n, 0));
            Sentences.refused("factor(24, 0, " + n + ")", -2, Sentences::busy, y -> y.factor(24, 0, n));
            Sentences.refused("factor(24, " + n + ", " + n + ")", -2, Sentences::busy, y -> y.factor(24, n, n));
        }
        for (int n = 0; n < 4; n++) {
            int same = n;
            Sentences.refused("factor(24, " + n + ", " + n + ")", -2, Sentences::busy, y -> y.factor(24, same, same));
        }
        Sentences.due("factor of nothing", new ClauseIndex().factor(24, 0, 1), -2);

        Sentences.sentence("-5: another PREDICATE, \"-\" ahead of one alone, two SYMBOLS that are unlike, a VARIABLE within what would be put for it;");
        notMade("p(x)|s(x)", 0, 1, -5);
        notMade("p(x)|q(x,y)", 1, 0, -5);
        notMade("r|-r", 0, 1, -5);
        notMade("-p(x)|p(x)", 0, 1, -5);
        notMade("p(a)|p(b)", 0, 1, -5);
        notMade("p(a)|p(f(a))", 0, 1, -5);
        notMade("p(f(x))|p(g(x))", 1, 0, -5);
        notMade("q(x,a)|q(y,b)", 0, 1, -5);
        notMade("q(x,x)|q(a,b)", 0, 1, -5);
        notMade("p(x)|p(f(x))", 0, 1, -5);
        notMade("p(x)|p(f(x))", 1, 0, -5);
        notMade("p(h(x,a))|p(h(h(b,x),a))", 0, 1, -5);
        notMade("q(x,y)|q(f(y),f(x))", 0, 1, -5);
        notMade("q(x,x)|q(y,f(y))", 1, 0, -5);

        Sentences.sentence("-4: behind some putting the CLAUSE has more than 30 SYMBOLS, or one of DEPTH 6 (-4, -5: whichever comes first).");
        beyond();
    }

    private static void beyond() {
        // 14 symbols, x seven times: for h(a,b) two more each are 28, for h(a,f(b)) three more are 36
        made("p(x)|p(h(a,b))|q(x,x)|q(x,x)|q(x,x)", 0, 1, 4, "100 2 3 4 102 2 3 4 2 3 4 102 2 3 4 2 3 4 102 2 3 4 2 3 4");
        notMade("p(x)|p(h(a,f(b)))|q(x,x)|q(x,x)|q(x,x)", 0, 1, -4);
        // j counts until it goes: 30 with it may be, 31 not
        made("p(x)|p(h(h(a,b),c))|q(x,x)|q(x,e)", 0, 1, 3, "100 2 2 3 4 5 102 2 2 3 4 5 2 2 3 4 5 102 2 2 3 4 5 7");
        notMade("p(x)|p(h(h(a,b),c))|q(x,x)|q(x,e)|r", 0, 1, -4);
        notMade("p(x)|p(h(h(a,b),c))|q(x,x)|q(x,f(e))", 1, 0, -4);
        // depth 5 may be, 6 not, also in a literal beside the two, also in one that goes
        made("p(x)|p(f(a))|s(f(f(f(x))))", 0, 1, 2, "100 0 3 106 0 0 0 0 3");
        notMade("p(x)|p(f(a))|s(f(f(f(f(x)))))", 0, 1, -4);
        notMade("q(a,x)|q(a,f(f(a)))|s(f(f(f(x))))", 0, 1, -4);
        notMade("q(x,f(f(f(f(x)))))|q(f(a),y)", 0, 1, -4);
        notMade("q(f(a),y)|q(x,f(f(f(f(x)))))", 0, 1, -4);
        // in the middle, though what comes behind would make it no less
        notMade("q(x,a)|q(f(y),b)|s(f(f(f(f(x)))))", 0, 1, -4);
        notMade("q(a,x)|q(b,f(y))|s(f(f(f(f(x)))))", 0, 1, -5);
        notMade("q(x,y)|q(f(y),f(x))|s(f(f(f(f(x)))))", 0, 1, -4);
        notMade("q(y,x)|q(f(y),f(z))|s(f(f(f(f(x)))))", 0, 1, -5);
    }

    private static void alike() {
        Sentences.promise(22);
        Sentences.sentence("1, if they are ALIKE, else 0.");
        ClauseIndex x = Talk.of("q(x,y)|p(x)", "p(u)|q(u,v)", "p(v)|q(u,v)", "q(x,x)|p(x)", "", "q(a,y)|p(a)");
        int[][] due = {{1, 1, 0, 0, 0, 0}, {1, 1, 0, 0, 0, 0}, {0, 0, 1, 0, 0, 0}, {0, 0, 0, 1, 0, 0}, {0, 0, 0, 0, 1, 0}, {0, 0, 0, 0, 0, 1}};
        for (int a = 0; a < 6; a++) {
            for (int b = 0; b < 6; b++) Sentences.due("alike " + a + " " + b, x.alike(a, b), due[a][b]);
        }
        x.take(1);
        Sentences.due("the query, 0", x.alike(24, 0), 1);
        Sentences.due("0, the query", x.alike(0, 24), 1);
        Sentences.due("the query, 2", x.alike(24, 2), 0);
        // it leaves nothing behind for those that put terms
        Sentences.due("alike", x.alike(0, 5), 0);
        Sentences.due("covers", x.covers(0, 5, 1), 1);
        Sentences.due("covers", x.covers(0, 3, 0), 1);
        Sentences.due("doubles", x.doubles(), 1);
        Sentences.due("ways", x.ways(0, 5, 1), 1);
        Sentences.due("alike", x.alike(0, 1), 1);
        Sentences.due("single", x.single(0, 5), 3);
        Sentences.sentence("-2.");
        for (int k : NO_CLAUSE) {
            Sentences.refused("alike(" + k + ", 0)", -2, Sentences::busy, y -> y.alike(k, 0));
            Sentences.refused("alike(0, " + k + ")", -2, Sentences::busy, y -> y.alike(0, k));
        }
    }
}
