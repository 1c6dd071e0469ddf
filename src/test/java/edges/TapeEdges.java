import java.util.function.Supplier;

/** Promises 1 to 9: the tape, clauses that come and go, the query. */
final class TapeEdges {
    private static final int LOWEST = Integer.MIN_VALUE;
    private static final int HIGHEST = Integer.MAX_VALUE;
    /** 31 symbols; none is too deep. */
    private static final String TOO_LONG = "q(h(h(h(a,b),h(a,b)),h(h(a,b),h(a,b))),h(h(h(a,b),h(a,b)),h(h(a,b),h(a,b))))";

    private TapeEdges() { }

    static void run() {
        newObject();
        feed();
        add();
        query();
        apply();
        applyBeyond();
        fault();
        take();
        keepAndRemove();
    }

    private static void newObject() {
        Sentences.promise(1);
        Sentences.sentence("No CLAUSES.");
        ClauseIndex x = new ClauseIndex();
        Sentences.row("count", what -> x.count(what), 0, 0, 0, 0, 0, 0, 0);
        Sentences.due("nodes", x.nodes(), 1);
        Sentences.due("fault(0)", x.fault(0), 0);
        Sentences.due("fault(1)", x.fault(1), -1);
        // what one object keeps another one doesn't
        ClauseIndex y = Sentences.busy();
        Sentences.due("all of another one", Sentences.now(new ClauseIndex()), Sentences.now(x));
        Sentences.due("count(0)", y.count(0), 2);
    }

    private static void feed() {
        Sentences.promise(2);
        Sentences.sentence("Twenty bytes come behind those on THE TAPE, the highest of each int first: how many it has.");
        ClauseIndex x = new ClauseIndex();
        for (int n = 20; n <= 100; n += 20) Sentences.due("feed", x.feed(0, 0, 0, 0, 0), n);
        x.query(0);
        Sentences.due("feed to the emptied tape", x.feed(0, 0, 0, 0, 0), 20);
        x.query(0);
        // q(h(u,v),h(w,f(x)))|-p(g(y))|s(z): 34 bytes in two feeds
        Sentences.due("feed", x.feed(0x71286828, 0x752c7629, 0x2c682877, 0x2c662878, 0x2929297c), 20);
        Sentences.due("feed", x.feed(0x2d702867, 0x28792929, 0x7c73287a, 0x29ffffff, -1), 40);
        Sentences.due("query", x.query(33), 3);
        Sentences.due("codes", Talk.codes(x, 24), "102 2 20 21 2 22 0 23 101 1 24 106 25");
        // each of the twenty places
        for (int place = 0; place < 20; place++) {
            int[] words = {0x727c727c, 0x727c727c, 0x72727272, 0x72727272, 0x72727272};
            words[place / 4] = words[place / 4] & ~(255 << 24 - 8 * (place % 4)) | 0x80 << 24 - 8 * (place % 4);
            ClauseIndex y = new ClauseIndex();
            y.feed(words[0], words[1], words[2], words[3], words[4]);
            y.query(20);
            Sentences.due("the wrong byte at " + place, y.fault(1), Math.min(place, 9));
        }
        // no clause is as long as a full tape, but it is read
        Sentences.due("a full tape", fullTape(), -31);

        Sentences.sentence("-4: it would have more than 100.");
        Supplier<ClauseIndex> full = () -> {
            ClauseIndex y = Sentences.busy();
            for (int i = 0; i < 4; i++) y.feed(0x72727272, 0, 0, 0, 0);
            return y;
        };
        Sentences.due("count(5)", full.get().count(5), 100);
        Sentences.refused("feed", -4, full, y -> y.feed(0x72727272, 0x72727272, 0x72727272, 0x72727272, 0x72727272));
        Sentences.refused("feed twice", -4, full, y -> y.feed(1, 2, 3, 4, 5) + 4 + y.feed(LOWEST, HIGHEST, 0, -1, 1));
    }

    private static int fullTape() {
        ClauseIndex x = new ClauseIndex();
        Talk.feed(x, "q(h(h(h(a,b),h(a,b)),h(h(a,b),h(a,b))),h(h(h(a,b),h(a,b)),h(h(a,b),c)))|" + "-".repeat(25));
        return x.query(100);
    }

    private static void add() {
        Sentences.promise(3);
        Sentences.sentence("The first n bytes of THE TAPE (which is empty then) are a CLAUSE, kept under the lowest free number: that.");
        ClauseIndex x = new ClauseIndex();
        Talk.feed(x, "p(x)|r|-q(a,b)");
        Sentences.due("add(4) of more", x.add(4), 0);
        Sentences.due("codes", Talk.codes(x, 0), "100 23");
        Sentences.due("the tape is empty", x.count(5), 0);
        Sentences.due("add(0) of an empty tape", x.add(0), 1);
        Talk.feed(x, "r");
        Sentences.due("add(0)", x.add(0), 2);
        Sentences.due("the tape is empty", x.count(5), 0);
        Sentences.due("literals", x.literals(2), 0);
        x.remove(1);
        x.remove(0);
        Sentences.due("the lowest free", Talk.add(x, "r"), 0);
        Sentences.due("the next lowest free", Talk.add(x, "-r"), 1);
        Sentences.due("the next lowest free", Talk.add(x, "r|r"), 3);
        for (int k = 4; k < 24; k++) Sentences.due("add", x.add(0), k);
        x.remove(23);
        Sentences.due("the last one", Talk.add(x, "s(x)"), 23);
        // 100 bytes of which 20 are read, 20 bytes of which all are
        x = new ClauseIndex();
        Talk.feed(x, "p(f(f(a)))|p(f(f(b)))" + " ".repeat(79));
        Sentences.due("add(10) of 100", x.add(10), 0);
        Talk.feed(x, "q(f(a),f(b))|p(f(c))");
        Sentences.due("add(20) of 20", x.add(20), 1);

        Sentences.sentence("-3: n is below 0, above what there is (THE TAPE stays);");
        for (int n : new int[] {LOWEST, -2, -1, 21, 22, 100, HIGHEST}) {
            Sentences.refused("add(" + n + ")", -3, Sentences::busy, y -> y.add(n));
            Sentences.refused("add(" + n + ") to 24", -3, Sentences::full, y -> y.add(n));
        }
        Sentences.refused("add(1) of an empty tape", -3, () -> Talk.of("r"), y -> y.add(1));
        Sentences.due("count(5)", Sentences.busy().count(5), 20);

        Sentences.sentence("-4: 24 are kept (so);");
        for (int n : new int[] {0, 1, 4, 7, 8, 20}) Sentences.refused("add(" + n + ")", -4, Sentences::full, y -> y.add(n));

        Sentences.sentence("a FAULT.");
        Sentences.refusedText("add", -31, TapeEdges::calm, "p(x", y -> y.add(3));
        Sentences.refusedText("add", -32, TapeEdges::calm, "r|r|r|r|r|", y -> y.add(10));
        Sentences.refusedText("add", -33, TapeEdges::calm, TOO_LONG, y -> y.add(TOO_LONG.length()));
        Sentences.refusedText("add", -34, TapeEdges::calm, "p(f(f(f(f(f(x))))))", y -> y.add(19));
    }

    /** As Sentences.busy(), the tape empty. */
    private static ClauseIndex calm() {
        ClauseIndex x = Sentences.busy();
        x.query(7);
        return x;
    }

    private static void query() {
        Sentences.promise(4);
        Sentences.sentence("They are the QUERY: how many LITERALS.");
        ClauseIndex x = Talk.of("r");
        String[] texts = {"", "r", "p(x)|r", "r|r|r", "r|-r|r|-r", "p(a)|p(b)|p(c)|p(d)|p(e)"};
        for (int n = 0; n < texts.length; n++) {
            Sentences.due("query " + texts[n], Talk.query(x, texts[n]), n);
            Sentences.due("literals(24)", x.literals(24), n);
            Sentences.due("the tape is empty", x.count(5), 0);
            Sentences.due("nothing is kept", x.count(0), 1);
        }
        Talk.feed(x, "p(x)|r");
        Sentences.due("query(0) of more", x.query(0), 0);
        Sentences.due("the tape is empty", x.count(5), 0);
        ClauseIndex full = Sentences.full();
        Sentences.due("query beside 24", full.query(7), 2);

        Sentences.sentence("-3 (so);");
        for (int n : new int[] {LOWEST, -2, -1, 21, 22, 100, HIGHEST}) Sentences.refused("query(" + n + ")", -3, Sentences::busy, y -> y.query(n));
        Sentences.refused("query(1) of an empty tape", -3, () -> Talk.of("r"), y -> y.query(1));

        Sentences.sentence("a FAULT.");
        Sentences.refusedText("query", -31, TapeEdges::calm, "p(x", y -> y.query(3));
        Sentences.refusedText("query", -32, TapeEdges::calm, "r|r|r|r|r|", y -> y.query(10));
        Sentences.refusedText("query", -33, TapeEdges::calm, TOO_LONG, y -> y.query(TOO_LONG.length()));
        Sentences.refusedText("query", -34, TapeEdges::calm, "p(f(f(f(f(f(x))))))", y -> y.query(19));
    }

    private static void applied(String query, String put, int times, String codes) {
        ClauseIndex x = Sentences.asking(query);
        Sentences.due("apply " + put + " to " + query, Talk.apply(x, put), times);
        Sentences.due("codes of " + query + ", " + put, Talk.codes(x, 24), codes);
        Sentences.due("the tape is empty", x.count(5), 0);
    }

    private static void apply() {
        Sentences.promise(5);
        Sentences.sentence("They are a PUT: in the QUERY the TERM stands in place of the VARIABLE wherever that was (not in the TERM itself): "
            + "how often.");
        applied("p(x)", "x=a", 1, "100 3");
        applied("p(x)", "y=a", 0, "100 23");
        applied("", "x=a", 0, "");
        applied("r", "x=h(x,x)", 0, "104");
        applied("q(x,f(x))|-p(h(x,y))", "x=g(y)", 3, "102 1 24 0 1 24 101 2 1 24 24");
        // its own variable in the term, and others that are in the query, are not put for again
        applied("q(x,x)", "x=f(x)", 2, "102 0 23 0 23");
        applied("q(x,y)", "x=h(x,y)", 1, "102 2 23 24 24");
        applied("p(x)", "x=x", 1, "100 23");
        applied("q(u,z)", "z=u", 1, "102 20 20");
        applied("q(u,z)", "u=z", 1, "102 25 25");
        applied("q(x,x)|q(x,x)|q(x,x)|q(x,x)|q(x,x)", "x=f(a)", 10,
            "102 0 3 0 3 102 0 3 0 3 102 0 3 0 3 102 0 3 0 3 102 0 3 0 3");
        ClauseIndex x = Talk.of("p(x)");
        x.take(0);
        Talk.apply(x, "x=a");
        Sentences.due("the clause kept stays", Talk.codes(x, 0), "100 23");
        Talk.feed(x, "y=a and more");
        Sentences.due("the first n bytes", x.apply(3), 0);
        // what is put depends on the depth where it comes to stand
        x = Sentences.asking("p(f(x))");
        Talk.apply(x, "x=f(a)");
        Sentences.due("depth", x.value(24, 30, 1), 3);
        Sentences.due("depth of f", x.value(24, 24, 1), 2);

        Sentences.sentence("-3 (so);");
        for (int n : new int[] {LOWEST, -2, -1, 21, 22, 100, HIGHEST}) Sentences.refused("apply(" + n + ")", -3, Sentences::busy, y -> y.apply(n));
        Sentences.refused("apply(1) of an empty tape", -3, () -> Talk.of("r"), y -> y.apply(1));

        Sentences.sentence("a FAULT;");
        Sentences.refusedText("apply", -31, TapeEdges::calm, "", y -> y.apply(0));
        Sentences.refusedText("apply", -31, TapeEdges::calm, "x=", y -> y.apply(2));
        Sentences.refusedText("apply", -31, TapeEdges::calm, "p(x)", y -> y.apply(4));
        String put = "x=h(" + TOO_LONG.substring(2);
        Sentences.refusedText("apply", -33, TapeEdges::calm, put, y -> y.apply(put.length()));
        Sentences.refusedText("apply", -34, TapeEdges::calm, "x=f(f(f(f(f(x)))))", y -> y.apply(18));
    }

    private static void applyBeyond() {
        Sentences.sentence("-4: the QUERY would have more than 30 SYMBOLS, or one of DEPTH 6 (THE TAPE is empty then).");
        // 14 symbols, 8 times x: 2 more each are 30
        String two = "102 2 3 4 2 3 4 ";
        applied("q(x,x)|q(x,x)|q(x,x)|q(x,x)|p(a)", "x=h(a,b)", 8, two + two + two + two + "100 3");
        beyond("q(x,x)|q(x,x)|q(x,x)|q(x,x)|p(f(a))", "x=h(a,b)");
        beyond("q(x,x)|q(x,x)|q(x,x)|q(x,x)|p(a)", "x=h(a,f(b))");
        beyond("q(x,y)|q(x,x)|q(x,x)|q(x,x)|p(h(x,h(a,h(a,a))))", "x=h(a,b)");
        beyond("q(x,x)|q(x,x)|q(x,x)|q(x,x)|q(x,x)", "x=h(a,b)");
        applied("q(x,h(a,h(a,h(a,a))))|q(h(h(a,a),h(a,a)),h(h(a,a),f(a)))|q(x,a)", "x=h(a,b)", 2,
            "102 2 3 4 2 3 2 3 2 3 3 102 2 2 3 3 2 3 3 2 2 3 3 0 3 102 2 3 4 3");
        beyond("q(x,h(a,h(a,h(a,a))))|q(h(h(a,a),h(a,a)),h(h(a,a),f(a)))|q(x,a)", "x=h(a,f(b))");
        // depth 5 may be, 6 not; where the variable isn't, nothing is too deep
        applied("p(f(f(f(f(x)))))", "x=a", 1, "100 0 0 0 0 3");
        beyond("p(f(f(f(f(x)))))", "x=f(a)");
        applied("p(f(f(f(x))))", "x=f(a)", 1, "100 0 0 0 0 3");
        beyond("p(f(f(f(x))))", "x=f(f(a))");
        beyond("p(x)|p(f(x))", "x=f(f(f(f(a))))");
        beyond("p(f(x))|p(x)", "x=f(f(f(f(a))))");
        applied("p(x)", "x=f(f(f(f(a))))", 1, "100 0 0 0 0 3");
        applied("p(f(f(f(f(x)))))", "y=f(f(f(f(a))))", 0, "100 0 0 0 0 23");
        beyond("q(a,h(a,h(a,h(x,h(b,y)))))", "y=h(a,b)");
        applied("q(a,h(a,h(a,h(x,h(b,y)))))", "x=h(a,b)", 1, "102 3 2 3 2 3 2 2 3 4 2 4 24");
    }

    private static void beyond(String query, String put) {
        Supplier<ClauseIndex> made = () -> {
            ClauseIndex x = Sentences.busy();
            x.query(0);
            Talk.query(x, query);
            return x;
        };
        Sentences.due("query " + query, made.get().fault(0), 0);
        Sentences.refusedText("apply to " + query, -4, made, put, x -> x.apply(put.length()));
        ClauseIndex x = made.get();
        Talk.apply(x, put);
        Sentences.due("the put was no fault", x.fault(0), 0);
        Sentences.due("the put has no place", x.fault(1), -1);
    }

    private static void fault() {
        Sentences.promise(6);
        Sentences.sentence("Of the latest add(), query(), apply() that read bytes, what 0: its FAULT (0), 1: its place (NONE).");
        ClauseIndex x = new ClauseIndex();
        Sentences.due("fault(0) of none", x.fault(0), 0);
        Sentences.due("fault(1) of none", x.fault(1), -1);
        String[] texts = {"p(t", "r|r|r|r|r|", TOO_LONG, "p(f(f(f(f(f(x"};
        int[] places = {2, 9, 71, 12};
        for (int i = 0; i < 4; i++) {
            for (int call = 0; call < 3; call++) {
                String text = call < 2 ? texts[i] : i == 1 ? "x=a|" : texts[i].replaceFirst("^p\\(", "x=").replaceFirst("^q\\(", "x=h(");
                int fault = call == 2 && i == 1 ? 1 : i + 1;
                int place = call < 2 ? places[i] : new int[] {2, 3, 71, 12}[i];
                if (call == 0) Talk.add(x, text);
                if (call == 1) Talk.query(x, text);
                if (call == 2) Talk.apply(x, text);
                Sentences.due("fault(0) of " + text, x.fault(0), fault);
                Sentences.due("fault(1) of " + text, x.fault(1), place);
                x.query(0);
                Sentences.due("fault(0) behind one without", x.fault(0), 0);
                Sentences.due("fault(1) behind one without", x.fault(1), -1);
            }
        }
        latest();
        Sentences.sentence("NONE for others.");
        Talk.query(x, "t");
        Sentences.each("fault", what -> x.fault(what), -1, LOWEST, -2, -1, 2, 3, HIGHEST);
    }

    private static void latest() {
        ClauseIndex x = new ClauseIndex();
        Talk.query(x, "p(t");
        Talk.feed(x, "r");
        Sentences.due("add(-1)", x.add(-1), -3);
        Sentences.due("query(21)", x.query(21), -3);
        Sentences.due("apply(21)", x.apply(21), -3);
        x.keep();
        x.take(0);
        x.undo(1);
        Sentences.due("calls that read nothing leave the fault", x.fault(0), 1);
        Sentences.due("and its place", x.fault(1), 2);
        Sentences.due("add", x.add(1), 0);
        Sentences.due("add that reads well", x.fault(0), 0);
        Talk.query(x, "t");
        Talk.apply(x, "x=a");
        Sentences.due("apply that reads well", x.fault(1), -1);
        ClauseIndex full = Sentences.keeping(24);
        Talk.query(full, "r|");
        Talk.feed(full, "t");
        Sentences.due("add to 24", full.add(1), -4);
        Sentences.due("add to 24 reads nothing", full.fault(1), 2);
        x.image(0);
        Talk.query(x, "r|");
        x.restore(0);
        Sentences.due("restore leaves the fault", x.fault(1), 2);
    }

    private static void take() {
        Sentences.promise(7);
        Sentences.sentence("A CLAUSE is the QUERY (24: it stays): how many LITERALS.");
        ClauseIndex x = Sentences.keeping(23);
        Talk.add(x, "p(x)|r");
        Talk.query(x, "s(a)|r|r");
        Sentences.due("take(24)", x.take(24), 3);
        Sentences.due("the query stays", Talk.codes(x, 24), "106 3 104 104");
        Sentences.due("take(23)", x.take(23), 2);
        Sentences.due("the query", Talk.codes(x, 24), "100 23 104");
        Sentences.due("the clause stays", Talk.codes(x, 23), "100 23 104");
        Sentences.due("take(0)", x.take(0), 0);
        Sentences.due("count(2)", x.count(2), 0);
        x.take(23);
        x.remove(23);
        Sentences.due("the query outlives the clause", Talk.codes(x, 24), "100 23 104");
        Sentences.sentence("-2.");
        for (int k : new int[] {LOWEST, -1, 1, 3, 23, 25, HIGHEST}) Sentences.refused("take(" + k + ")", -2, Sentences::busy, y -> y.take(k));
    }

    private static void keepAndRemove() {
        Sentences.promise(8);
        Sentences.sentence("The QUERY is kept, too: its number.");
        ClauseIndex x = new ClauseIndex();
        Sentences.due("keep of nothing", x.keep(), 0);
        Talk.query(x, "p(x)|r");
        Sentences.due("keep", x.keep(), 1);
        Sentences.due("the query stays", Talk.codes(x, 24), "100 23 104");
        Sentences.due("keep again", x.keep(), 2);
        Sentences.due("codes", Talk.codes(x, 2), "100 23 104");
        x.remove(1);
        Sentences.due("the lowest free", x.keep(), 1);
        Talk.apply(x, "x=a");
        Sentences.due("the clause kept stays", Talk.codes(x, 1), "100 23 104");
        ClauseIndex last = Sentences.keeping(23);
        Sentences.due("the 24th", last.keep(), 23);
        Sentences.sentence("-4.");
        Sentences.refused("keep of a 25th", -4, Sentences::full, y -> y.keep());
        Sentences.refused("keep of a 25th", -4, () -> Sentences.keeping(24), y -> y.keep());

        Sentences.promise(9);
        Sentences.sentence("A CLAUSE kept is no more: how many are.");
        x = Sentences.keeping(24);
        Sentences.due("remove(23)", x.remove(23), 23);
        Sentences.due("remove(0)", x.remove(0), 22);
        Sentences.due("remove(11)", x.remove(11), 21);
        Sentences.due("count(1)", x.count(1), 0x7ff7fe);
        Sentences.due("literals(11)", x.literals(11), -2);
        Sentences.due("remove of the only one", Talk.of("r").remove(0), 0);
        Sentences.sentence("-2 (24, too).");
        for (int k : new int[] {LOWEST, -1, 1, 3, 23, 24, 25, HIGHEST}) Sentences.refused("remove(" + k + ")", -2, Sentences::busy, y -> y.remove(k));
        Sentences.refused("remove of what was removed", -2, () -> {
            ClauseIndex y = Talk.of("r", "r");
            y.remove(0);
            return y;
        }, y -> y.remove(0));
    }
}
