/** Terms, second part: which clauses there are, covering, ways, alike, always true, condensed. */
final class CoverEdges {
    private CoverEdges() { }

    static void run() {
        Sentences.terms();
        numbers();
        covering();
        ways();
        others();
    }

    private static void numbers() {
        Sentences.sentence("==== 2. Up to 24 CLAUSES are kept, under numbers 0 to 23 (none at first);");
        ClauseIndex x = new ClauseIndex();
        Sentences.due("count(0)", x.count(0), 0);
        Sentences.due("count(1)", x.count(1), 0);
        for (int k = 0; k < 24; k++) Sentences.due("literals(" + k + ") at first", x.literals(k), -2);
        for (int k = 0; k < 24; k++) {
            Sentences.due("the " + k + "th", k % 2 == 0 ? x.keep() : x.add(0), k);
            Sentences.due("count(0)", x.count(0), k + 1);
        }
        Sentences.due("count(1)", x.count(1), 0xffffff);
        Sentences.due("a 25th by keep()", x.keep(), -4);
        Sentences.due("a 25th by add()", x.add(0), -4);
        Sentences.due("count(0)", x.count(0), 24);

        Sentences.sentence("24 is the QUERY (the CLAUSE without LITERALS at first).");
        x = new ClauseIndex();
        Sentences.due("literals(24)", x.literals(24), 0);
        Sentences.due("code(24, 0)", x.code(24, 0), -7);
        Sentences.due("variables(24)", x.variables(24), 0);
        Sentences.due("count(2)", x.count(2), 0);
        Talk.query(x, "p(x)|r");
        Sentences.due("literals(24)", x.literals(24), 2);
        x = Sentences.keeping(24);
        Talk.query(x, "p(x)|r");
        Sentences.due("literals(24) beside 24", x.literals(24), 2);
        Sentences.due("literals(23)", x.literals(23), 0);

        Sentences.sentence("VARIABLES of one CLAUSE have to do with none of another one.");
        x = Talk.of("q(x,y)", "q(y,x)", "q(f(x),x)", "p(x)|-p(y)", "p(y)|-p(x)");
        // x of the one may be put for by a term in which x of the other one is
        Sentences.due("q(x,y) over q(f(x),x)", x.covers(0, 2, 1), 1);
        Sentences.due("what is put for x", x.bound(0, 2, 1, 3, 1), 23);
        Sentences.due("what is put for y", x.bound(0, 2, 1, 4, 0), 23);
        Sentences.due("q(x,y) over q(y,x)", x.covers(0, 1, 1), 1);
        Sentences.due("q(x,y) alike q(y,x)", x.alike(0, 1), 1);
        Sentences.due("p(x)|-p(y) over p(y)|-p(x)", x.covers(3, 4, 1), 1);
        x.take(0);
        Talk.apply(x, "x=a");
        Sentences.due("a put is the query's alone", Talk.codes(x, 0), "102 23 24");
    }

    private static void covers(String c, String d, int bySets, int byNumbers) {
        ClauseIndex x = Talk.of(c, d);
        Sentences.due(c + " over " + d + ", 0", x.covers(0, 1, 0), bySets);
        Sentences.due(c + " over " + d + ", 1", x.covers(0, 1, 1), byNumbers);
    }

    private static void covering() {
        Sentences.sentence("C COVERS D: a TERM for each VARIABLE of C, so that each LITERAL of C, these put, is one of D "
            + "(VARIABLES of D stay as they are):");
        covers("", "", 1, 1);
        covers("", "p(x)", 1, 1);
        covers("p(x)", "", 0, 0);
        covers("p(x)", "p(h(a,f(y)))", 1, 1);
        covers("p(h(a,f(y)))", "p(x)", 0, 0);
        covers("p(x)", "p(x)", 1, 1);
        covers("p(f(x))", "p(f(f(x)))", 1, 1);
        covers("p(f(f(x)))", "p(f(x))", 0, 0);
        covers("p(a)", "p(a)", 1, 1);
        covers("p(a)", "p(b)", 0, 0);
        covers("p(a)", "p(y)", 0, 0);
        covers("p(f(x))", "p(g(x))", 0, 0);
        covers("p(x)", "-p(x)", 0, 0);
        covers("-p(x)", "p(x)", 0, 0);
        covers("p(x)", "s(x)", 0, 0);
        covers("r", "r|-r", 1, 1);
        // one term for each variable, whatever literals it is in
        covers("q(x,x)", "q(a,a)", 1, 1);
        covers("q(x,x)", "q(a,b)", 0, 0);
        covers("q(x,x)", "q(y,z)", 0, 0);
        covers("q(x,x)", "q(h(a,y),h(a,y))", 1, 1);
        covers("q(x,x)", "q(h(a,y),h(a,z))", 0, 0);
        covers("p(x)|s(x)", "p(a)|s(a)", 1, 1);
        covers("p(x)|s(x)", "p(a)|s(b)", 0, 0);
        covers("p(x)|s(x)", "s(b)|p(a)|p(b)", 1, 1);
        // six variables, five literals
        covers("q(u,v)|q(w,x)|q(y,z)|r|-r", "-r|r|q(e,f(z))|q(c,d)|q(a,b)", 1, 1);
        covers("q(u,v)|q(v,w)|q(w,x)|q(x,y)|q(y,z)", "q(a,a)|q(a,a)|q(a,a)|q(a,a)|q(a,a)", 1, 1);
        covers("q(u,v)|q(v,w)|q(w,x)|q(x,y)|q(y,z)", "q(a,b)|q(b,c)|q(c,d)|q(d,e)|q(f(a),e)", 0, 0);

        Sentences.sentence("a WAY is which one of D each is, a row of places.");
        ClauseIndex x = Talk.of("p(x)|p(y)|r", "r|p(b)|p(a)|r", "", "r|r");
        Sentences.due("ways", x.ways(0, 1, 0), 2 * 2 * 2);
        Sentences.due("ways", x.ways(0, 1, 1), 2 * 2);
        int[] places = {1, 1, 0};
        for (int i = 0; i < 3; i++) Sentences.due("way " + i, x.way(0, 1, 0, i), places[i]);
        // rows to literals that are the same are unlike rows; the empty clause has one row, without places
        Sentences.due("ways of r|r to itself", x.ways(3, 3, 0), 4);
        Sentences.due("ways of r|r to itself", x.ways(3, 3, 1), 2);
        Sentences.due("ways of nothing", x.ways(2, 1, 0), 1);
        Sentences.due("ways of nothing", x.ways(2, 2, 1), 1);
        Sentences.due("ways to nothing", x.ways(1, 2, 0), 0);
    }

    private static void ways() {
        Sentences.sentence("MODE 0: any WAY; MODE 1: no two of C are one of D.");
        covers("p(x)|p(y)", "p(a)", 1, 0);
        covers("p(x)|p(x)", "p(a)|p(b)", 1, 0);
        covers("p(x)|p(y)", "p(a)|p(b)", 1, 1);
        covers("p(a)|p(a)", "p(a)", 1, 0);
        covers("p(a)|p(a)", "p(a)|p(a)", 1, 1);
        covers("r|r|r|r|r", "r", 1, 0);
        covers("r|r|r|r|r", "r|r|r|r|-r", 1, 0);
        covers("r|r|r|r|r", "r|r|r|r|r", 1, 1);
        covers("r|p(x)|p(y)", "p(a)|r", 1, 0);

        Sentences.sentence("The FIRST WAY: the least row.");
        ClauseIndex x = Talk.of("p(x)|q(x,y)|p(y)", "p(a)|q(c,a)|p(c)|q(a,a)|q(c,c)", "p(x)|p(y)", "r|p(c)|p(b)|p(a)");
        // 0 3 0 is less than 2 1 0
        int[] bySets = {0, 3, 0};
        int[] byNumbers = {2, 1, 0};
        for (int i = 0; i < 3; i++) {
            Sentences.due("way " + i + " by sets", x.way(0, 1, 0, i), bySets[i]);
            Sentences.due("way " + i + " by numbers", x.way(0, 1, 1, i), byNumbers[i]);
        }
        Sentences.due("way", x.way(2, 3, 0, 0), 1);
        Sentences.due("way", x.way(2, 3, 0, 1), 1);
        Sentences.due("way", x.way(2, 3, 1, 0), 1);
        Sentences.due("way", x.way(2, 3, 1, 1), 2);
        // of five literals the last one forbids all but the last row
        x = Talk.of("p(u)|p(v)|p(w)|p(x)|q(h(u,v),h(w,x))", "p(a)|p(b)|p(c)|p(d)|q(h(d,c),h(b,a))");
        for (int i = 0; i < 4; i++) Sentences.due("way " + i, x.way(0, 1, 1, i), 3 - i);
        Sentences.due("way 4", x.way(0, 1, 1, 4), 4);
        Sentences.due("ways", x.ways(0, 1, 0), 1);
    }

    private static void alike(String c, String d, int answer) {
        ClauseIndex x = Talk.of(c, d);
        Sentences.due(c + " alike " + d, x.alike(0, 1), answer);
        Sentences.due(d + " alike " + c, x.alike(1, 0), answer);
    }

    private static void condensed(String text, int bits) {
        ClauseIndex x = Talk.of(text);
        Sentences.due("condensed " + text, x.condensed(0, 1), bits);
        Sentences.due("condensed " + text, x.condensed(0, 0), Integer.bitCount(bits));
    }

    private static void others() {
        Sentences.sentence("ALIKE: by a WAY of MODE 1 between as many LITERALS, by which each VARIABLE is put for by a VARIABLE, "
            + "unlike ones by unlike ones.");
        alike("", "", 1);
        alike("", "r", 0);
        alike("r", "r|r", 0);
        alike("r|r", "r|r", 1);
        alike("r|-r", "-r|r", 1);
        alike("r|r|-r", "r|-r|-r", 0);
        alike("p(x)", "p(z)", 1);
        alike("p(x)", "p(a)", 0);
        alike("p(x)", "p(f(y))", 0);
        alike("q(x,y)", "q(z,z)", 0);
        alike("q(x,x)", "q(z,z)", 1);
        alike("q(x,y)", "q(y,x)", 1);
        alike("p(x)|p(y)", "p(z)|p(z)", 0);
        alike("q(x,y)|q(y,x)", "q(u,v)|q(v,u)", 1);
        alike("q(x,y)|q(y,x)", "q(u,v)|q(u,v)", 0);
        // the first way of mode 1 is none of this kind, a later one is
        alike("p(x)|p(f(y))", "p(f(y))|p(x)", 1);
        alike("p(x)|p(a)", "p(a)|p(x)", 1);
        // a name that an attempt in vain has taken is free again
        alike("q(x,a)|q(x,b)", "q(u,b)|q(u,a)", 1);
        alike("q(x,y)|p(f(x))|q(y,b)", "q(u,b)|q(v,u)|p(f(v))", 1);
        alike("q(u,v)|q(w,x)|q(y,z)", "q(z,y)|q(x,w)|q(v,u)", 1);
        alike("q(u,v)|q(w,x)|q(y,u)", "q(z,y)|q(x,w)|q(v,u)", 0);
        alike("q(u,v)|q(v,w)|q(w,x)|q(x,y)|q(y,u)", "q(a,v)|q(v,w)|q(w,x)|q(x,y)|q(y,a)", 0);

        Sentences.sentence("ALWAYS TRUE: it has a LITERAL and the same one with \"-\".");
        String[] always = {"r|-r", "-r|r", "-p(x)|p(x)", "q(f(a),y)|r|-q(f(a),y)", "-r|s(a)|s(b)|s(c)|r", "r|r|-r", "p(a)|-p(b)|-p(a)"};
        for (String text : always) Sentences.due("always " + text, Talk.of(text).always(0), 1);
        String[] never = {"", "r", "-r", "r|r", "-r|-r", "p(x)|-p(y)", "p(a)|-p(x)", "p(a)|-s(a)", "q(a,b)|-q(b,a)", "p(f(x))|-p(x)",
            "p(x)|-p(f(x))", "p(x)|p(x)", "-s(f(a))|s(f(b))", "q(a,a)|-q(a,b)"};
        for (String text : never) Sentences.due("always " + text, Talk.of(text).always(0), 0);

        Sentences.sentence("CONDENSED: the fewest of a CLAUSE's LITERALS so that the CLAUSE COVERS (MODE 0) that of these alone.");
        condensed("", 0);
        condensed("r", 1);
        condensed("r|-r", 3);
        condensed("r|r|r|r|r", 1);
        condensed("p(x)|p(a)", 2);
        condensed("p(x)|p(y)", 1);
        condensed("p(x)|s(x)|p(a)", 7);
        condensed("p(x)|s(x)|p(a)|s(a)", 12);
        condensed("p(x)|s(y)|p(a)", 6);
        condensed("q(x,y)|q(y,x)", 3);
        condensed("q(x,y)|q(y,z)|q(z,x)", 7);
        condensed("q(x,y)|q(y,z)|q(z,x)|q(u,u)", 8);
        condensed("q(u,v)|q(v,w)|q(w,x)|q(x,y)|q(y,u)", 31);
        condensed("q(x,a)|q(b,y)|q(b,a)|q(c,a)", 12);
    }
}
