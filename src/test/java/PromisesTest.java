/** Each promise of the document by itself: ordinary calls, the edges that it names, wrong numbers. */
public final class PromisesTest {
    private static final int LOWEST = Integer.MIN_VALUE;
    private static final int HIGHEST = Integer.MAX_VALUE;

    private static int wrong = 0;
    private static int checks = 0;
    private static int promise = 0;

    private static void due(String call, int got, int want) {
        checks++;
        if (got != want) {
            wrong++;
            System.out.println("promise " + promise + ": " + call + " answered " + got + ", due is " + want);
        }
    }

    private static void due(String call, String got, String want) {
        checks++;
        if (!got.equals(want)) {
            wrong++;
            System.out.println("promise " + promise + ": " + call + " answered " + got + ", due is " + want);
        }
    }

    private static ClauseIndex asking(String query, String... kept) {
        ClauseIndex x = Talk.of(kept);
        Talk.query(x, query);
        return x;
    }

    private static ClauseIndex full() {
        ClauseIndex x = new ClauseIndex();
        for (int i = 0; i < 24; i++) x.keep();
        return x;
    }

    public static void main(String[] args) {
        texts();
        clauses();
        twoClauses();
        features();
        treeAndOrder();
        searches();
        numbersOfPairs();
        allClauses();
        back();
        System.out.println(checks + " checks of the promises, " + wrong + " wrong");
        if (wrong != 0) System.exit(1);
    }

    // ---- texts

    private static void texts() {
        newObject();
        feeding();
        adding();
        querying();
        faults();
        applying();
        takingAndKeeping();
    }

    private static void newObject() {
        promise = 1;
        ClauseIndex x = new ClauseIndex();
        due("NONE", ClauseIndex.NONE, -1);
        for (int what = 0; what < 6; what++) due("count(" + what + ")", x.count(what), 0);
        due("literals(24)", x.literals(24), 0);
        due("literals(0)", x.literals(0), -2);
        due("order(0)", x.order(0), -1);
        due("restore(0)", x.restore(0), -6);
        due("restore(1)", x.restore(1), -6);
        due("fault(0)", x.fault(0), 0);
        due("fault(1)", x.fault(1), -1);
        // objects share nothing
        ClauseIndex y = Talk.of("p(a)");
        due("count(0) of another one", x.count(0), 0);
        due("count(0)", y.count(0), 1);
    }

    private static void feeding() {
        promise = 2;
        ClauseIndex x = new ClauseIndex();
        for (int i = 1; i <= 5; i++) due("feed", x.feed(0, 0, 0, 0, 0), 20 * i);
        due("feed to a full tape", x.feed(0, 0, 0, 0, 0), -4);
        due("count(5)", x.count(5), 100);
        due("add of the first byte, 0", x.add(1), -31);
        due("count(5)", x.count(5), 0);
        // the highest byte first, one int behind the other, later feeds behind
        due("feed", x.feed(0x70286129, 0x7c702862, 0x297c7028, 0x63297c70, 0x2864297c), 20);
        due("feed", x.feed(0x71286528, 0, 0, 0, 0), 40);
        due("query", x.query(23), -31);
        due("fault(1)", x.fault(1), 23);
        x.feed(0x70286129, 0x7c702862, 0x297c7028, 0x63297c70, 0x2864297c);
        x.feed(0x70286529, 0, 0, 0, 0);
        due("query", x.query(24), 5);
        due("codes", Talk.codes(x, 24), "100 3 100 4 100 5 100 6 100 7");
        // bytes above 127 are bytes, too
        x.feed(0xff000000, 0, 0, 0, 0);
        due("query of byte 255", x.query(1), -31);
    }

    private static void adding() {
        promise = 3;
        ClauseIndex x = new ClauseIndex();
        due("add", Talk.add(x, "p(x)"), 0);
        due("add", Talk.add(x, "-q(a,h(y,b))|r|-s(g(z))"), 1);
        due("codes", Talk.codes(x, 1), "103 3 2 24 4 104 107 1 25");
        due("codes", Talk.codes(x, 0), "100 23");
        x.remove(0);
        due("add under the lowest free", Talk.add(x, "r"), 0);
        due("add of nothing", x.add(0), 2);
        due("literals", x.literals(2), 0);
        Talk.feed(x, "r");
        due("add(-1)", x.add(-1), -3);
        due("add(21)", x.add(21), -3);
        due("the tape stays", x.count(5), 20);
        due("add(20) with bytes 0 behind", x.add(20), -31);
        due("the tape is empty", x.count(5), 0);
        due("nothing is kept by that", x.count(0), 3);
        due("add(1)", x.add(1), -3);
        x = full();
        Talk.feed(x, "r");
        due("add to 24", x.add(1), -4);
        due("add to 24, of wrong bytes", x.add(2), -4);
        due("add to 24, of too many", x.add(21), -3);
        due("the tape stays", x.count(5), 20);
        due("count(1)", x.count(1), (1 << 24) - 1);
        x.remove(7);
        due("add", x.add(1), 7);
    }

    private static void querying() {
        promise = 4;
        ClauseIndex x = new ClauseIndex();
        due("query", Talk.query(x, "p(u)|q(v,w)|-r"), 3);
        due("codes", Talk.codes(x, 24), "100 20 102 21 22 105");
        due("query of a fault", Talk.query(x, "p(u"), -31);
        due("the query stays", Talk.codes(x, 24), "100 20 102 21 22 105");
        Talk.feed(x, "r");
        due("query(-1)", x.query(-1), -3);
        due("query(21)", x.query(21), -3);
        due("count(5)", x.count(5), 20);
        due("query(0)", x.query(0), 0);
        due("count(5)", x.count(5), 0);
        due("count(2)", x.count(2), 0);
        due("nothing is kept", x.count(0), 0);
        due("nothing can be undone", x.count(4), 0);
    }

    /** The sign ! stands ahead of the place and is none of the text. */
    private static void fault(String marked, int fault) {
        String text = marked.replace("!", "");
        int place = marked.indexOf('!');
        ClauseIndex x = new ClauseIndex();
        due("query " + text, Talk.query(x, text), -30 - fault);
        due("fault(0) of " + text, x.fault(0), fault);
        due("fault(1) of " + text, x.fault(1), place);
        due("add " + text, Talk.add(x, text), -30 - fault);
        due("fault(1) of " + text, x.fault(1), place);
        due("tape", x.count(5), 0);
        due("kept", x.count(0), 0);
    }

    private static void putFault(String marked, int fault) {
        String text = marked.replace("!", "");
        int place = marked.indexOf('!');
        ClauseIndex x = asking("p(x)");
        due("apply " + text, Talk.apply(x, text), -30 - fault);
        due("fault(0) of " + text, x.fault(0), fault);
        due("fault(1) of " + text, x.fault(1), place);
        due("tape", x.count(5), 0);
        due("query", Talk.codes(x, 24), "100 23");
    }

    /** n times a literal of three symbols and others behind. */
    private static String symbols(int threes, String last) {
        StringBuilder text = new StringBuilder();
        for (int i = 0; i < threes; i++) text.append("q(a,b)|");
        return text + last;
    }

    private static void faults() {
        promise = 6;
        String[] wrongBytes = {"-!", "-!-r", "!|r", "r|!", "r|!|r", "!t(a)", "!o", "!a", "!x", "!=", "r! r", "r!r", "r!(a)", "p!", "p!a",
            "p(!)", "p(!p(a))", "p(!i)", "p(!t)", "p(!{)", "p(!`)", "p(!-a)", "p(a!,b)", "p(a!(", "p(x!(", "p(f!)", "p(f(a)!",
            "p(h(a!))", "p(h(a,b!,c))", "q(a!)", "q(a,!)", "q(a,b!,c)", "q(a,b)!=", "q(a!|b)", "r|r|r|r|r!-", "r|r|r|r|r!r",
            "p(f(f(f(f(f(!t", "p(f(f(f(f(f(!", "p(h(h(h(h(h(!)"};
        for (String text : wrongBytes) fault(text, 1);
        fault("r|r|r|r|r!|", 2);
        fault("r|r|r|r|r!|t", 2);
        fault("p(x)|-p(y)|q(a,b)|r|-s(c)!|r", 2);
        fault("p(f(f(f(f(f(!a))))))", 4);
        fault("p(f(f(f(f(f(!x))))))", 4);
        fault("p(f(f(f(f(f(!h(a,b)))))))", 4);
        fault("q(a,g(g(g(g(h(!x,y", 4);
        fault("q(a,h(b,h(b,h(b,h(b,h(!x,y", 4);
        // terms of 15 symbols: with q and two of them there are 31
        String fifteen = "h(h(h(a,b),h(a,b)),h(h(a,b),h(a,b)))";
        fault(symbols(3, "q(" + fifteen + ",h(h(a,b),h(!c,d)))"), 3);
        fault("q(" + fifteen + ",h(h(h(a,b),h(a,b)),h(h(a,b),h(a,!b))))", 3);
        fault("q(" + fifteen + ",h(h(h(h(h(!a,b),b),b),h(h(a,b),c)),c))", 4);
        // the 31st symbol is one of depth 6, too: of one place the least
        fault("q(" + fifteen + ",h(h(h(a,b),h(a,b)),h(h(a,h(a,f(!x", 3);
        fault("q(" + fifteen + ",h(h(h(a,b),h(a,b)),h(h(a,h(a,f(!t", 1);
        // 19 symbols, 6, then 5: the next one may be a predicate's
        String nineteen = "q(h(h(h(a,b),h(a,b)),h(h(a,b),c)),h(h(a,b),c))";
        fault(nineteen + "|s(f(g(f(g(a)))))|-q(f(a),h(f(!b", 3);
        fault(nineteen + "|s(f(g(f(g(a)))))|-q(h(a,b),a)|-!r", 3);
        fault(nineteen + "|s(f(g(f(g(a)))))|-q(h(a,b),a)|-!t", 1);
        fault(nineteen + "|s(f(g(f(g(a)))))|-q(h(a,b),a)|!", 1);
        ClauseIndex x = new ClauseIndex();
        due("30 symbols", Talk.query(x, symbols(3, "q(h(h(h(a,b),h(a,b)),h(h(a,b),h(a,b))),h(h(a,b),c))")), 4);
        due("count(2)", x.count(2), 30);
        due("depth 5", Talk.query(x, "p(f(f(f(f(a)))))"), 1);
        due("5 literals", Talk.query(x, "r|-r|r|r|-r"), 5);
        laterFaults();
    }

    private static void laterFaults() {
        ClauseIndex x = new ClauseIndex();
        Talk.query(x, "p(t)");
        for (int what : new int[] {LOWEST, -1, 2, 3, HIGHEST}) due("fault(" + what + ")", x.fault(what), -1);
        Talk.feed(x, "r");
        x.add(-1);
        x.query(30);
        x.apply(30);
        due("a refused number reads nothing", x.fault(0), 1);
        due("a refused number reads nothing", x.fault(1), 2);
        due("add", x.add(1), 0);
        due("fault(0)", x.fault(0), 0);
        due("fault(1)", x.fault(1), -1);
        Talk.apply(x, "x");
        due("fault(0)", x.fault(0), 1);
        due("add(0)", x.add(0), 1);
        due("fault(0)", x.fault(0), 0);
        x = full();
        Talk.query(x, "|");
        Talk.feed(x, "t");
        x.add(1);
        due("add to 24 reads nothing", x.fault(1), 0);
        x.query(0);
        Talk.query(x, "p(f(f(f(f(x)))))");
        due("apply -4", Talk.apply(x, "x=f(a)"), -4);
        due("no fault of the text", x.fault(0), 0);
        due("no fault of the text", x.fault(1), -1);
    }

    private static void applying() {
        promise = 5;
        String[] wrongBytes = {"!", "!a=x", "!f(x)=a", "!t=a", "!{=a", "!-x=a", "!r", "x!", "x!-a", "x!x", "x=!", "x=!r", "x=!=", "x=a!|",
            "x=a!a", "x=f!", "x=f(a!", "x=f(a)!=", "x=h(a!)"};
        for (String text : wrongBytes) putFault(text, 1);
        putFault("x=f(f(f(f(f(!a)))))", 4);
        putFault("x=f(f(f(f(f(!r)))))", 1);
        // the variable and 29 symbols are 30, the next one is the 31st, whatever its depth
        String sixteen = "h(h(h(h(a,b),h(a,b)),h(h(a,b),h(a,b))),";
        putFault("x=" + sixteen + "h(h(h(a,b),h(a,b)),h(f(a),h(b,!c))))", 3);
        putFault("x=" + sixteen + "h(h(h(a,b),h(a,b)),h(a,h(b,f(!c)))))", 3);
        ClauseIndex longest = asking("p(x)");
        due("apply of 29 symbols", Talk.apply(longest, "x=" + sixteen + "h(h(h(a,b),h(a,b)),h(a,h(b,c))))"), 1);
        due("count(2)", longest.count(2), 30);
        ClauseIndex x = asking("q(x,f(x))|p(y)|-s(g(x))");
        due("apply", Talk.apply(x, "x=h(x,y)"), 3);
        due("codes", Talk.codes(x, 24), "102 2 23 24 0 2 23 24 100 24 107 1 2 23 24");
        due("apply", Talk.apply(x, "z=a"), 0);
        due("codes", Talk.codes(x, 24), "102 2 23 24 0 2 23 24 100 24 107 1 2 23 24");
        due("apply", Talk.apply(x, "y=x"), 4);
        due("apply of itself", Talk.apply(x, "x=x"), 7);
        due("codes", Talk.codes(x, 24), "102 2 23 23 0 2 23 23 100 23 107 1 2 23 23");
        Talk.feed(x, "u=a");
        due("apply(-1)", x.apply(-1), -3);
        due("apply(21)", x.apply(21), -3);
        due("count(5)", x.count(5), 20);
        due("apply(0)", x.apply(0), -31);
        due("count(5)", x.count(5), 0);
        due("nothing can be undone", x.count(4), 0);
        applyingToLimits();
    }

    private static void applyingToLimits() {
        ClauseIndex x = asking("p(f(f(f(x))))|q(x,y)");
        due("apply to depth 6", Talk.apply(x, "x=f(f(a))"), -4);
        due("codes", Talk.codes(x, 24), "100 0 0 0 23 102 23 24");
        due("count(5)", x.count(5), 0);
        due("apply to depth 5", Talk.apply(x, "x=f(a)"), 2);
        due("codes", Talk.codes(x, 24), "100 0 0 0 0 3 102 0 3 24");
        x = asking("q(x,x)|q(x,x)|q(y,a)");
        due("apply to 9 + 4 * 6 symbols", Talk.apply(x, "x=h(h(a,b),h(a,b))"), -4);
        due("count(2)", x.count(2), 9);
        due("apply to 9 + 4 * 4 symbols", Talk.apply(x, "x=h(h(a,b),a)"), 4);
        due("count(2)", x.count(2), 25);
        due("apply to 30 symbols", Talk.apply(x, "y=g(h(a,h(a,b)))"), 1);
        due("count(2)", x.count(2), 30);
        due("apply to 30 symbols where the variable isn't", Talk.apply(x, "y=h(a,b)"), 0);
        x = asking("q(x,x)|q(x,x)|q(x,x)|q(y,y)|q(y,y)");
        due("apply to 15 + 6 * 2", Talk.apply(x, "x=f(g(z))"), 6);
        due("apply to 27 + 4", Talk.apply(x, "y=f(a)"), -4);
        due("apply to 27", Talk.apply(x, "y=a"), 4);
    }

    private static void takingAndKeeping() {
        promise = 7;
        ClauseIndex x = Talk.of("p(x)|r", "", "q(x,y)");
        due("take", x.take(0), 2);
        due("codes", Talk.codes(x, 24), "100 23 104");
        due("take(24)", x.take(24), 2);
        due("codes", Talk.codes(x, 24), "100 23 104");
        due("the clause stays", x.literals(0), 2);
        for (int k : new int[] {LOWEST, -1, 3, 23, 25, HIGHEST}) due("take(" + k + ")", x.take(k), -2);
        due("codes", Talk.codes(x, 24), "100 23 104");
        Talk.apply(x, "x=a");
        due("the clause is another one than the query", Talk.codes(x, 0), "100 23 104");
        due("take(1)", x.take(1), 0);

        promise = 8;
        Talk.query(x, "s(e)");
        due("keep", x.keep(), 3);
        x.remove(1);
        due("keep under the lowest free", x.keep(), 1);
        due("codes", Talk.codes(x, 1), "106 7");
        due("codes", Talk.codes(x, 24), "106 7");
        x = full();
        due("keep of a 25th", x.keep(), -4);
        due("count(0)", x.count(0), 24);

        promise = 9;
        due("remove", x.remove(23), 23);
        due("remove again", x.remove(23), -2);
        for (int k : new int[] {LOWEST, -1, 24, 25, HIGHEST}) due("remove(" + k + ")", x.remove(k), -2);
        due("remove", x.remove(0), 22);
        due("count(1)", x.count(1), (1 << 23) - 2);
        due("literals", x.literals(0), -2);
    }

    // ---- a clause

    private static void clauses() {
        ClauseIndex x = Talk.of("-q(f(x),y)|r|s(z)|p(h(a,h(b,c)))|-r", "");
        int[] numbers = {LOWEST, -1, 2, 23, 25, HIGHEST};

        promise = 10;
        due("literals(0)", x.literals(0), 5);
        due("literals(1)", x.literals(1), 0);
        for (int k : numbers) due("literals(" + k + ")", x.literals(k), -2);

        promise = 11;
        int[][] rows = {{1, 1, 4}, {0, 2, 1}, {0, 3, 2}, {0, 0, 6}, {1, 2, 1}};
        for (int i = 0; i < 5; i++) {
            for (int what = 0; what < 3; what++) due("literal " + i + " " + what, x.literal(0, i, what), rows[i][what]);
        }
        for (int i : new int[] {LOWEST, -1, 5, HIGHEST}) due("literal(0, " + i + ", 0)", x.literal(0, i, 0), -2);
        for (int what : new int[] {LOWEST, -1, 3, HIGHEST}) due("literal(0, 0, " + what + ")", x.literal(0, 0, what), -2);
        for (int k : numbers) due("literal(" + k + ", 0, 0)", x.literal(k, 0, 0), -2);
        due("literal(1, 0, 0)", x.literal(1, 0, 0), -2);

        promise = 12;
        due("codes", Talk.codes(x, 0), "103 0 23 24 104 106 25 100 2 3 2 4 5 105");
        due("code(0, 14)", x.code(0, 14), -7);
        due("code(0, -1)", x.code(0, -1), -7);
        due("code(0, highest)", x.code(0, HIGHEST), -7);
        due("code(0, lowest)", x.code(0, LOWEST), -7);
        due("code(1, 0)", x.code(1, 0), -7);
        due("code(2, -1)", x.code(2, -1), -6);
        due("code(23, 0)", x.code(23, 0), -6);
        for (int k : new int[] {LOWEST, -1, 25, HIGHEST}) due("code(" + k + ", -1)", x.code(k, -1), -2);
        due("codes", Talk.codes(asking("q(u,v)|q(w,x)|q(y,z)|q(d,e)|p(g(a))"), 24),
            "102 20 21 102 22 23 102 24 25 102 6 7 100 1 3");

        promise = 13;
        due("variables", x.variables(0), 8 + 16 + 32);
        due("variables", x.variables(1), 0);
        due("variables", asking("q(f(u),h(z,v))").variables(24), 1 + 2 + 32);
        for (int k : numbers) due("variables(" + k + ")", x.variables(k), -2);

        promise = 14;
        due("always", x.always(0), 1);
        due("always", x.always(1), 0);
        for (int k : numbers) due("always(" + k + ")", x.always(k), -2);
        due("always", asking("p(x)|-p(y)").always(24), 0);
        due("always", asking("-p(f(x))|r|p(f(x))").always(24), 1);
        due("always", asking("p(f(x))|-p(x)").always(24), 0);
        due("always", asking("p(a)|p(a)").always(24), 0);
        due("always", asking("p(a)|-s(a)").always(24), 0);
        due("always", asking("-r|p(a)|-r|q(x,y)|r").always(24), 1);

        condensing(numbers);
    }

    private static void condensing(int[] numbers) {
        promise = 15;
        String[] texts = {"", "p(x)|p(y)", "p(x)|p(a)|r", "p(a)|p(a)|p(a)", "q(x,y)|q(y,x)", "q(x,y)|q(y,z)|q(u,u)",
            "p(x)|-p(y)|s(x)", "q(x,y)|q(x,b)|q(a,y)|q(a,b)|r", "q(x,y)|q(y,x)|q(a,b)|q(b,a)", "p(f(x))|p(x)", "p(y)|p(f(x))"};
        int[] bits = {0, 1, 6, 1, 3, 4, 7, 24, 12, 3, 2};
        for (int i = 0; i < texts.length; i++) {
            ClauseIndex x = asking(texts[i]);
            due("condensed " + texts[i], x.condensed(24, 1), bits[i]);
            due("condensed " + texts[i], x.condensed(24, 0), Integer.bitCount(bits[i]));
            due("the query stays", x.literals(24), texts[i].isEmpty() ? 0 : texts[i].split("\\|").length);
        }
        ClauseIndex x = Talk.of("r", "r");
        for (int k : numbers) due("condensed(" + k + ", 0)", x.condensed(k, 0), -2);
        for (int what : new int[] {LOWEST, -1, 2, HIGHEST}) due("condensed(0, " + what + ")", x.condensed(0, what), -2);
    }

    // ---- two clauses

    private static void twoClauses() {
        covering();
        countingWays();
        firstWays();
        bindings();
        singles();
        factors();
        renamings();
    }

    private static void covers(String a, String b, int bySets, int byNumbers) {
        ClauseIndex x = Talk.of(a, b);
        due(a + " over " + b + ", 0", x.covers(0, 1, 0), bySets);
        due(a + " over " + b + ", 1", x.covers(0, 1, 1), byNumbers);
        x.take(0);
        due("from the query", x.covers(24, 1, 0), bySets);
        x.take(1);
        due("to the query", x.covers(0, 24, 1), byNumbers);
    }

    private static void covering() {
        promise = 16;
        covers("", "", 1, 1);
        covers("", "r", 1, 1);
        covers("r", "", 0, 0);
        covers("r", "-r", 0, 0);
        covers("p(x)", "s(x)", 0, 0);
        covers("p(x)", "p(f(x))", 1, 1);
        covers("p(f(x))", "p(x)", 0, 0);
        covers("p(a)", "p(x)", 0, 0);
        covers("q(x,y)", "q(z,z)", 1, 1);
        covers("q(z,z)", "q(x,y)", 0, 0);
        covers("q(x,x)", "q(f(y),f(y))", 1, 1);
        covers("q(x,x)", "q(f(y),f(z))", 0, 0);
        covers("q(x,f(x))", "q(f(x),f(f(x)))", 1, 1);
        covers("p(x)|p(y)", "p(a)", 1, 0);
        covers("p(x)|p(y)", "p(a)|p(a)", 1, 1);
        covers("p(x)|q(x,y)", "q(a,b)|p(b)", 0, 0);
        covers("p(x)|q(x,y)", "p(b)|q(a,b)|p(a)", 1, 1);
        covers("r|r", "r|-r", 1, 0);
        covers("q(x,y)|q(y,z)|q(z,x)", "q(a,b)|q(b,a)", 0, 0);
        covers("q(x,y)|q(y,z)|q(z,x)", "q(a,b)|q(b,a)|q(a,a)", 1, 1);
        covers("q(x,y)|q(y,x)", "q(a,a)", 1, 0);
        ClauseIndex x = Talk.of("r", "r");
        for (int k : new int[] {LOWEST, -1, 2, 23, 25, HIGHEST}) {
            due("covers", x.covers(k, 0, 0), -2);
            due("covers", x.covers(0, k, 0), -2);
        }
        for (int mode : new int[] {LOWEST, -1, 2, HIGHEST}) due("covers", x.covers(0, 1, mode), -2);
    }

    private static void countingWays() {
        promise = 17;
        ClauseIndex x = Talk.of("p(u)|p(v)|p(w)|p(x)|p(y)", "p(a)|p(b)|p(a)|p(c)|p(a)", "q(x,y)|q(y,z)", "q(a,b)|q(b,c)|q(b,a)", "");
        due("ways of any row", x.ways(0, 1, 0), 3125);
        due("ways of unlike places", x.ways(0, 1, 1), 120);
        // ab bc, ab ba, ba ab
        due("ways of rows that meet", x.ways(2, 3, 0), 3);
        due("ways of rows that meet", x.ways(2, 3, 1), 3);
        due("ways to nothing", x.ways(0, 4, 0), 0);
        due("ways of nothing", x.ways(4, 0, 0), 1);
        due("ways of nothing to nothing", x.ways(4, 4, 1), 1);
        due("ways", x.ways(0, 3, 0), 0);
        Talk.query(x, "r|r|r");
        due("ways of the same literal", x.ways(24, 24, 0), 27);
        due("ways of the same literal", x.ways(24, 24, 1), 6);
        for (int k : new int[] {LOWEST, -1, 5, 23, 25, HIGHEST}) {
            due("ways", x.ways(k, 0, 0), -2);
            due("ways", x.ways(0, k, 0), -2);
        }
        for (int mode : new int[] {LOWEST, -1, 2, HIGHEST}) due("ways", x.ways(0, 1, mode), -2);
    }

    private static void firstWays() {
        promise = 18;
        ClauseIndex x = Talk.of("q(x,y)|q(y,z)|-r", "-r|q(a,b)|q(c,c)|q(b,d)|-r", "p(x)|p(y)", "p(a)|p(b)");
        int[][] due = {{1, 3, 0}, {1, 3, 0}};
        for (int mode = 0; mode < 2; mode++) {
            for (int i = 0; i < 3; i++) due("way " + i, x.way(0, 1, mode, i), due[mode][i]);
        }
        due("way by sets", x.way(2, 3, 0, 1), 0);
        due("way by numbers", x.way(2, 3, 1, 1), 1);
        due("way by numbers", x.way(2, 3, 1, 0), 0);
        due("no way", x.way(1, 0, 0, 0), -1);
        due("no way, no such literal", x.way(1, 0, 0, 5), -2);
        due("no such literal", x.way(0, 1, 0, 3), -2);
        for (int i : new int[] {LOWEST, -1, 5, HIGHEST}) due("way", x.way(0, 1, 0, i), -2);
        for (int k : new int[] {LOWEST, -1, 4, 25, HIGHEST}) {
            due("way", x.way(k, 0, 0, 0), -2);
            due("way", x.way(0, k, 0, 0), -2);
        }
        for (int mode : new int[] {LOWEST, -1, 2, HIGHEST}) due("way", x.way(0, 1, mode, 0), -2);
        // the first that is left for the later ones, not the first for itself
        x = Talk.of("p(x)|q(x,b)", "p(c)|q(a,b)|p(a)");
        due("way goes back", x.way(0, 1, 1, 0), 2);
        due("way goes back", x.way(0, 1, 1, 1), 1);
    }

    private static void bindings() {
        promise = 19;
        ClauseIndex x = Talk.of("q(u,f(v))|p(v)", "q(h(a,z),f(g(u)))|p(g(u))", "p(y)|p(z)", "p(a)|p(f(b))");
        due("bound", x.bound(0, 1, 0, 0, -1), 3);
        int[] codes = {2, 3, 25, -1, -1};
        for (int i = 0; i < 5; i++) due("bound " + i, x.bound(0, 1, 0, 0, i), codes[i]);
        due("bound", x.bound(0, 1, 1, 1, -1), 2);
        due("bound", x.bound(0, 1, 1, 1, 0), 1);
        due("bound", x.bound(0, 1, 1, 1, 1), 20);
        due("bound", x.bound(0, 1, 1, 1, 2), -1);
        due("bound of a variable that isn't there", x.bound(0, 1, 0, 2, -1), -1);
        due("bound of a variable that isn't there", x.bound(0, 1, 0, 2, 0), -1);
        due("bound without a way", x.bound(1, 0, 0, 0, -1), -1);
        due("bound by sets", x.bound(2, 3, 0, 5, 0), 3);
        due("bound by numbers", x.bound(2, 3, 1, 5, 0), 0);
        due("bound by numbers", x.bound(2, 3, 1, 5, -1), 2);
        for (int v : new int[] {LOWEST, -1, 6, HIGHEST}) due("bound of " + v, x.bound(0, 1, 0, v, -1), -2);
        due("bound, i below NONE", x.bound(0, 1, 0, 0, -2), -3);
        due("bound, i below NONE", x.bound(1, 0, 0, 0, LOWEST), -3);
        due("bound, i far above", x.bound(0, 1, 0, 0, HIGHEST), -1);
        due("bound, v tells first", x.bound(0, 1, 0, 6, -2), -2);
        due("bound, the mode tells first", x.bound(0, 1, 2, 0, -2), -2);
        due("bound, a clause tells first", x.bound(4, 1, 0, 0, -2), -2);
        due("bound, a clause tells first", x.bound(0, 25, 0, 0, -2), -2);
        // what an attempt in vain has put is gone
        x = Talk.of("q(x,y)|p(x)", "q(a,b)|q(c,d)|p(c)");
        due("bound behind a vain attempt", x.bound(0, 1, 0, 3, 0), 5);
        due("bound behind a vain attempt", x.bound(0, 1, 0, 4, 0), 6);
    }

    private static void singles() {
        promise = 20;
        ClauseIndex x = Talk.of("p(x)|q(x,x)|-r|q(a,y)|p(b)", "p(a)|q(a,b)|r", "");
        due("single", x.single(0, 1), 1 + 8);
        due("single", x.single(1, 0), 0);
        due("single of nothing", x.single(2, 0), 0);
        due("single to nothing", x.single(0, 2), 0);
        due("single to itself", x.single(0, 0), 31);
        for (int k : new int[] {LOWEST, -1, 3, 25, HIGHEST}) {
            due("single", x.single(k, 0), -2);
            due("single", x.single(0, k), -2);
        }
    }

    private static void factor(String text, int i, int j, int answer, String codes) {
        ClauseIndex x = Talk.of(text, "r");
        Talk.query(x, "-r");
        due("factor " + text, x.factor(0, i, j), answer);
        due("codes of " + text, Talk.codes(x, 24), answer < 0 ? "105" : codes);
        due("the clause stays", x.literals(0), text.split("\\|").length);
        due("nothing more can be undone", x.count(4), 2);
    }

    private static void factors() {
        promise = 21;
        factor("p(x)|p(y)", 0, 1, 1, "100 24");
        factor("p(x)|p(y)", 1, 0, 1, "100 23");
        factor("p(x)|q(x,y)|p(a)", 0, 2, 2, "100 3 102 3 24");
        factor("p(x)|q(x,y)|p(a)", 2, 0, 2, "102 3 24 100 3");
        factor("r|r|-r", 0, 1, 2, "104 105");
        factor("r|r|-r", 0, 2, -5, "");
        factor("p(a)|s(a)", 0, 1, -5, "");
        factor("p(a)|p(b)", 0, 1, -5, "");
        factor("p(f(x))|p(g(x))", 0, 1, -5, "");
        factor("p(x)|p(f(x))", 0, 1, -5, "");
        factor("p(h(a,f(y)))|p(h(a,y))", 0, 1, -5, "");
        factor("q(x,x)|q(y,f(y))", 0, 1, -5, "");
        factor("q(x,y)|q(y,x)|p(x)", 0, 1, 2, "102 24 24 100 24");
        factor("q(x,y)|q(f(y),a)|s(h(x,y))", 0, 1, 2, "102 0 3 3 106 2 0 3 3");
        factor("q(h(x,y),z)|q(z,h(a,b))", 0, 1, 1, "102 2 3 4 2 3 4");
        factor("p(h(x,a))|p(h(b,y))|q(x,y)", 0, 1, 2, "100 2 4 3 102 4 3");
        // depth 6 comes by the first putting, unlike symbols only behind it, or the other way round
        factor("q(x,a)|q(f(y),b)|p(f(f(f(f(x)))))", 0, 1, -4, "");
        factor("q(a,x)|q(b,f(y))|p(f(f(f(f(x)))))", 0, 1, -5, "");
        factor("q(x,y)|q(f(a),f(f(a)))|p(f(f(f(y))))", 0, 1, -4, "");
        factor("q(x,y)|q(f(a),f(a))|p(f(f(f(y))))", 0, 1, 2, "102 0 3 0 3 100 0 0 0 0 3");
        // symbols: j counts, too, until it goes
        factor("q(x,x)|q(x,x)|p(x)|p(h(h(a,b),h(a,b)))", 2, 3, -4, "");
        factor("q(x,x)|q(x,x)|p(x)|p(h(a,h(a,b)))", 2, 3, -4, "");
        factor("q(x,x)|q(x,b)|p(x)|p(h(a,h(a,b)))", 2, 3, 3,
            "102 2 3 2 3 4 2 3 2 3 4 102 2 3 2 3 4 4 100 2 3 2 3 4");
        ClauseIndex x = Talk.of("r|r", "p(x)|p(a)");
        due("factor(0, 0, 0)", x.factor(0, 0, 0), -2);
        for (int n : new int[] {LOWEST, -1, 2, HIGHEST}) {
            due("factor", x.factor(0, n, 0), -2);
            due("factor", x.factor(0, 0, n), -2);
            due("factor", x.factor(0, n, n), -2);
        }
        for (int k : new int[] {LOWEST, -1, 2, 24, 25, HIGHEST}) due("factor", x.factor(k, 0, 1), -2);
        x.take(1);
        due("factor of the query", x.factor(24, 1, 0), 1);
        due("codes", Talk.codes(x, 24), "100 3");
    }

    private static void alike(String a, String b, int answer) {
        ClauseIndex x = Talk.of(a, b);
        due(a + " alike " + b, x.alike(0, 1), answer);
        due(b + " alike " + a, x.alike(1, 0), answer);
        due("doubles", x.doubles(), answer);
    }

    private static void renamings() {
        promise = 22;
        alike("", "", 1);
        alike("", "r", 0);
        alike("p(x)", "p(y)", 1);
        alike("p(x)", "p(a)", 0);
        alike("p(x)", "-p(x)", 0);
        alike("q(x,y)", "q(y,x)", 1);
        alike("q(x,y)", "q(z,z)", 0);
        alike("p(x)|q(x,y)", "q(u,v)|p(u)", 1);
        alike("p(x)|q(x,y)", "q(u,v)|p(v)", 0);
        alike("p(x)|p(y)", "p(x)", 0);
        alike("p(x)|p(x)", "p(x)|p(y)", 0);
        alike("r|r|-r", "r|-r|-r", 0);
        alike("r|r|-r", "-r|r|r", 1);
        alike("q(u,v)|q(v,w)|q(w,u)", "q(x,z)|q(y,x)|q(z,y)", 1);
        alike("q(u,v)|q(v,w)|q(w,u)", "q(x,z)|q(y,x)|q(y,z)", 0);
        ClauseIndex x = Talk.of("r", "r");
        for (int k : new int[] {LOWEST, -1, 2, 25, HIGHEST}) {
            due("alike", x.alike(k, 0), -2);
            due("alike", x.alike(0, k), -2);
        }
    }

    // ---- features

    private static void features() {
        promise = 23;
        ClauseIndex x = Talk.of("p(h(a,f(a)))|-q(g(b),x)|-q(e,h(e,g(e)))|r|r", "");
        int[] due = new int[40];
        due[0] = 1;
        due[3] = 2;
        due[4] = 2;
        due[8] = 1;
        due[8 + 3] = 2;
        due[8 + 4] = 1;
        due[8 + 5] = 1;
        due[8 + 6] = 2;
        due[8 + 9] = 1;
        due[8 + 15] = 3;
        due[24] = 2;
        due[24 + 3] = 2;
        due[24 + 4] = 1;
        due[24 + 5] = 1;
        due[24 + 6] = 3;
        due[24 + 9] = 2;
        due[24 + 15] = 3;
        for (int f = 0; f < 40; f++) {
            due("value " + f, x.value(0, f, 1), due[f]);
            due("value " + f, x.value(0, f, 0), f < 24 ? Math.min(1, due[f]) : due[f]);
            due("value " + f + " of nothing", x.value(1, f, 1), 0);
        }
        for (int f : new int[] {LOWEST, -1, 40, HIGHEST}) due("value " + f, x.value(0, f, 1), -2);
        for (int mode : new int[] {LOWEST, -1, 2, HIGHEST}) due("value", x.value(0, 0, mode), -2);
        for (int k : new int[] {LOWEST, -1, 2, 25, HIGHEST}) due("value", x.value(k, 0, 0), -2);
        Talk.query(x, "p(f(f(f(f(c)))))");
        due("value of the query", x.value(24, 24 + 10, 0), 5);
        due("value of the query", x.value(24, 24, 0), 4);
        due("value of the query", x.value(24, 8, 1), 4);

        promise = 24;
        x = Talk.of("p(a)", "p(a)|p(b)", "r", "p(c)|p(b)|p(x)", "p(f(a))");
        due("power(0, 1)", x.power(0, 1), 9);
        due("power(0, 0)", x.power(0, 0), 4);
        due("power(30, 0)", x.power(30, 0), 8);
        due("power(7, 1)", x.power(7, 1), 0);
        for (int f : new int[] {LOWEST, -1, 40, HIGHEST}) due("power " + f, x.power(f, 1), -2);
        for (int mode : new int[] {LOWEST, -1, 2, HIGHEST}) due("power", x.power(0, mode), -2);
    }

    // ---- the tree, its order

    private static void treeAndOrder() {
        choosing();
        beingGreedy();
        laying();
        nodes();
        changesBetween();
    }

    private static String order(ClauseIndex x) {
        StringBuilder row = new StringBuilder();
        for (int i = 0; x.order(i) >= 0; i++) row.append(i == 0 ? "" : " ").append(x.order(i));
        return row.toString();
    }

    private static void choosing() {
        promise = 25;
        // powers by mode 1: 0: 9, 14: 6 (three have an a), 30: 8, 16: 6, 32: 6, 4: 4, 18: 4, 34: 4, 8: 4, 24: 4
        ClauseIndex x = Talk.of("p(a)", "p(a)|p(b)", "r", "p(c)|p(b)|p(x)", "p(f(a))");
        due("choose", x.choose(8, 1), 1 + 4 + 5 + 5 * 6);
        due("order", order(x), "0 30 14 16 32 4 8 18");
        due("choose", x.choose(0, 1), 1);
        due("order", order(x), "");
        due("choose by mode 0", x.choose(3, 0), 1 + 3 + 4 + 4);
        due("order", order(x), "30 14 16");
        due("choose of as many powers 0", new ClauseIndex().choose(8, 0), 1);
        int undone = x.count(4);
        due("choose the same row", x.choose(3, 0), 12);
        due("count(4)", x.count(4), undone);
        x.choose(2, 0);
        due("count(4)", x.count(4), undone + 1);
        for (int n : new int[] {LOWEST, -1, 9, HIGHEST}) {
            due("choose(" + n + ", 0)", x.choose(n, 0), -3);
            due("choose(" + n + ", 2)", x.choose(n, 2), -2);
        }
        for (int mode : new int[] {LOWEST, -1, 2, HIGHEST}) due("choose", x.choose(1, mode), -2);
        due("order", order(x), "30 14");
    }

    private static void beingGreedy() {
        promise = 26;
        // 20 pairs; 0 leaves 11 by mode 1; a row of unlike values leaves 10 at least
        ClauseIndex x = Talk.of("p(a)", "p(a)|p(b)", "r", "p(c)|p(b)|p(x)", "p(f(a))");
        due("greedy(0, 1)", x.greedy(0, 1), 20);
        due("count(4)", x.count(4), 5);
        due("greedy(1, 1)", x.greedy(1, 1), 11);
        due("order", order(x), "0");
        due("pairs", x.pairs(1, 0), 11);
        due("count(4)", x.count(4), 6);
        due("greedy(1, 1)", x.greedy(1, 1), 11);
        due("count(4)", x.count(4), 6);
        due("greedy(2, 1)", x.greedy(2, 1), 6);
        due("order", order(x), "0 30");
        due("greedy(8, 0)", x.greedy(8, 0), x.pairs(0, 0));
        due("greedy of nothing", new ClauseIndex().greedy(8, 1), 0);
        x = new ClauseIndex();
        x.greedy(8, 1);
        due("order of like ones", order(x), "0 1 2 3 4 5 6 7");
        for (int n : new int[] {LOWEST, -1, 9, HIGHEST}) {
            due("greedy(" + n + ", 0)", x.greedy(n, 0), -3);
            due("greedy(" + n + ", 2)", x.greedy(n, 2), -2);
        }
        for (int mode : new int[] {LOWEST, -1, 2, HIGHEST}) due("greedy", x.greedy(1, mode), -2);
    }

    private static void laying() {
        ClauseIndex x = new ClauseIndex();
        promise = 27;
        for (int i = 0; i < 7; i++) due("lay", x.lay(39 - i), i + 1);
        due("lay again", x.lay(39), -5);
        due("lay the eighth", x.lay(0), 8);
        due("lay a ninth", x.lay(1), -4);
        due("lay one of 8 again", x.lay(39), -4);
        for (int f : new int[] {LOWEST, -1, 40, HIGHEST}) due("lay " + f, x.lay(f), -2);

        promise = 29;
        due("order", order(x), "39 38 37 36 35 34 33 0");
        for (int i : new int[] {LOWEST, -1, 8, HIGHEST}) due("order(" + i + ")", x.order(i), -1);

        promise = 28;
        for (int i = 7; i >= 0; i--) due("unlay", x.unlay(), i);
        due("unlay of none", x.unlay(), -5);
        due("order", order(x), "");
        due("order(0)", x.order(0), -1);
        due("lay", x.lay(39), 1);
    }

    private static void nodes() {
        // by 0 (1, 2, 0, 3, 1), by 30 (1, 1, 0, 0, 2)
        ClauseIndex x = Talk.of("p(a)", "p(a)|p(b)", "r", "p(c)|p(b)|p(x)", "p(f(a))", "p(a)");
        promise = 30;
        due("nodes", x.nodes(), 1);
        x.lay(0);
        due("nodes", x.nodes(), 5);
        x.lay(30);
        due("nodes", x.nodes(), 10);
        due("nodes", new ClauseIndex().nodes(), 1);

        promise = 31;
        int[][] rows = {{0, -1, 4, 6}, {1, 0, 1, 1}, {2, 0, 0, 1}, {1, 1, 2, 3}, {2, 1, 0, 2}, {2, 2, 0, 1},
            {1, 2, 1, 1}, {2, 1, 0, 1}, {1, 3, 1, 1}, {2, 0, 0, 1}};
        for (int i = 0; i < 10; i++) {
            for (int what = 0; what < 4; what++) due("node " + i + " " + what, x.node(i, what), rows[i][what]);
        }
        for (int i : new int[] {LOWEST, -1, 10, HIGHEST}) due("node", x.node(i, 0), -2);
        for (int what : new int[] {LOWEST, -1, 4, HIGHEST}) due("node", x.node(0, what), -2);

        promise = 32;
        int[] at = {4, 7, 2, 9, 5, 4};
        for (int k = 0; k < 6; k++) due("at " + k, x.at(k), at[k]);
        for (int k : new int[] {LOWEST, -1, 6, 24, 25, HIGHEST}) due("at " + k, x.at(k), -2);
        x.unlay();
        x.unlay();
        due("at the root", x.at(3), 0);
        // 24 unlike clauses, each of a row of its own from the first feature on or the second one
        x = mostNodes();
        due("nodes", x.nodes(), 1 + 24 * 2 + 5);
    }

    /** What the tree, and what covers what, was asked for before must not be told of other clauses. */
    private static void changesBetween() {
        ClauseIndex x = Talk.of("p(a)");
        x.lay(0);
        promise = 30;
        due("nodes", x.nodes(), 2);
        promise = 31;
        Talk.add(x, "r");
        due("node", x.node(0, 2), 2);
        promise = 32;
        Talk.add(x, "p(a)|p(b)");
        due("at", x.at(2), 3);
        promise = 35;
        Talk.add(x, "p(a)|p(b)|p(c)");
        due("visited", x.visited(1, 1), 5);
        promise = 36;
        x.remove(0);
        due("candidates", x.candidates(1, 1), 2 + 4 + 8);
        promise = 37;
        x.remove(3);
        due("total", x.total(1, 1), 3 + 2);
        promise = 43;
        x.unlay();
        due("tops", x.tops(0), 2 + 4);
        Talk.add(x, "");
        due("tops", x.tops(0), 1);
        x.remove(0);
        due("tops", x.tops(0), 2 + 4);
        x.query(0);
        x.keep();
        due("tops", x.tops(0), 1);
        due("pairs", x.pairs(0, 1), 2);
        due("clean", x.clean(0), 2);
        due("pairs", x.pairs(0, 1), 0);
        x.undo(1);
        due("pairs", x.pairs(0, 1), 2);
    }

    /** 24 clauses of unlike values of 0 (1 to 5) and 14. */
    private static ClauseIndex mostNodes() {
        ClauseIndex x = new ClauseIndex();
        String[] as = {"x", "a", "h(a,a)", "h(a,h(a,a))", "h(h(a,a),h(a,a))"};
        for (int n = 1; n <= 5; n++) {
            for (int i = 0; i < 5 && x.count(0) < 24; i++) {
                Talk.add(x, "p(y)|".repeat(n - 1) + "p(" + as[i] + ")");
            }
        }
        x.lay(0);
        x.lay(14);
        x.lay(7);
        return x;
    }

    // ---- searches

    private static void searches() {
        ClauseIndex x = asking("p(f(a))|p(b)", "p(x)", "p(x)|p(y)", "r", "", "p(f(a))|p(b)|r", "p(x)|p(y)|p(z)", "p(a)");
        promise = 33;
        due("forward", x.forward(0, -1), 4);
        int[] bySets = {0, 1, 3, 5, -1};
        for (int i = 0; i < 5; i++) due("forward " + i, x.forward(0, i), bySets[i]);
        due("forward", x.forward(1, -1), 3);
        int[] byNumbers = {0, 1, 3, -1};
        for (int i = 0; i < 4; i++) due("forward " + i, x.forward(1, i), byNumbers[i]);
        due("forward", x.forward(0, HIGHEST), -1);
        due("forward", x.forward(0, -2), -3);
        due("forward", x.forward(1, LOWEST), -3);
        for (int mode : new int[] {LOWEST, -1, 2, HIGHEST}) due("forward", x.forward(mode, -2), -2);

        promise = 34;
        due("backward", x.backward(0, -1), 1);
        due("backward", x.backward(0, 0), 4);
        due("backward", x.backward(0, 1), -1);
        Talk.query(x, "p(x)|p(y)");
        due("backward", x.backward(0, -1), 5);
        due("backward", x.backward(1, -1), 3);
        due("backward", x.backward(1, 0), 1);
        due("backward", x.backward(1, 1), 4);
        due("backward", x.backward(1, 2), 5);
        due("backward", x.backward(1, 3), -1);
        due("backward", x.backward(0, -2), -3);
        for (int mode : new int[] {LOWEST, -1, 2, HIGHEST}) due("backward", x.backward(mode, -2), -2);

        visits(x);
    }

    private static void visits(ClauseIndex x) {
        // by 0: 1 2 0 0 2 3 1, by 4: 0 0 1 0 1 0 0; the query has 2 and 0
        x.lay(0);
        x.lay(4);
        // root; 0 (2: 0, 1); 1 (0); 2 (0, 1); 3 (0)
        due("nodes", x.nodes(), 11);
        promise = 35;
        due("visited", x.visited(0, 1), 1 + 3 + 3);
        due("visited", x.visited(0, 0), 1 + 4 + 4);
        due("visited", x.visited(1, 1), 1 + 2 + 3);
        due("visited", x.visited(1, 0), 1 + 3 + 4);
        promise = 36;
        due("candidates", x.candidates(0, 1), 1 + 2 + 8 + 64);
        due("candidates", x.candidates(0, 0), 1 + 2 + 8 + 32 + 64);
        due("candidates", x.candidates(1, 1), 2 + 16 + 32);
        due("candidates", x.candidates(1, 0), 1 + 2 + 16 + 32 + 64);
        promise = 37;
        // forward by mode 1: 1 0: 5, 2 0: 7, 0 1: 4, 0 0: 3, 2 1: 9, 3 0: 9, 1 0: 5
        due("total", x.total(0, 1), 5 + 7 + 4 + 3 + 9 + 9 + 5);
        // backward by mode 1: 1 0: 1 + 3 + 4, 2 0: 6, 0 1: 1 + 4 + 2, 0 0: 11, 2 1: 1 + 2 + 1, 3 0: 3, 1 0: 8
        due("total", x.total(1, 1), 8 + 6 + 7 + 11 + 4 + 3 + 8);
        // forward by mode 0: (1, 0): 9 four times, (0, 1): 4, (0, 0): 3, (1, 1): 11
        due("total", x.total(0, 0), 4 * 9 + 4 + 3 + 11);
        due("the query stays", x.literals(24), 2);
        for (int n : new int[] {LOWEST, -1, 2, HIGHEST}) {
            promise = 35;
            due("visited", x.visited(n, 0), -2);
            due("visited", x.visited(0, n), -2);
            promise = 36;
            due("candidates", x.candidates(n, 0), -2);
            due("candidates", x.candidates(0, n), -2);
            promise = 37;
            due("total", x.total(n, 0), -2);
            due("total", x.total(0, n), -2);
        }
        x.unlay();
        x.unlay();
        promise = 36;
        due("candidates at the root", x.candidates(1, 1), 127);
        x = new ClauseIndex();
        x.lay(0);
        due("candidates of none", x.candidates(0, 0), 0);
        promise = 35;
        due("visited", x.visited(0, 0), 1);
        promise = 37;
        due("total of none", x.total(0, 0), 0);
    }

    // ---- pairs

    private static void numbersOfPairs() {
        promise = 38;
        ClauseIndex x = Talk.of("p(x)", "p(a)|p(y)", "p(a)", "r");
        due("pairs", x.pairs(0, 0), 12);
        // 0 over 1, 2; 1 over 2 by sets alone, over 0 not; 2 over 1
        due("pairs", x.pairs(0, 1), 4);
        due("pairs", x.pairs(1, 1), 3);
        x.lay(0);
        due("pairs", x.pairs(0, 0), 9);
        due("pairs", x.pairs(1, 0), 7);
        x.lay(14);
        due("pairs", x.pairs(1, 0), 6);
        due("pairs of none", new ClauseIndex().pairs(0, 1), 0);
        for (int n : new int[] {LOWEST, -1, 2, HIGHEST}) {
            due("pairs", x.pairs(n, 0), -2);
            due("pairs", x.pairs(0, n), -2);
        }

        promise = 39;
        due("rate", x.rate(1), Float.floatToIntBits(3f / 6f));
        due("rate", x.rate(0), Float.floatToIntBits(4f / (float) x.pairs(0, 0)));
        due("rate of none", new ClauseIndex().rate(0), 0);
        due("rate of one", Talk.of("r").rate(0), 0);
        due("rate of like ones", Talk.of("r", "r").rate(1), Float.floatToIntBits(1f));
        due("rate of none that cover", Talk.of("r", "p(a)", "s(a)").rate(1), 0);
        for (int mode : new int[] {LOWEST, -1, 2, HIGHEST}) due("rate", x.rate(mode), -2);
        rates();

        promise = 40;
        String[] four = {"p(x)|r", "p(a)|p(y)", "p(a)", "r"};
        x = Talk.of(four);
        due("best", x.best(1, 0), leastOfTwo(four, 1, 0));
        due("best", x.best(1, 1), leastOfTwo(four, 1, 1));
        due("best", x.best(1, 2), leastOfTwo(four, 1, 2));
        due("best", x.best(0, 1), leastOfTwo(four, 0, 1));
        due("order stays", x.order(0), -1);
        x.lay(39);
        due("best has nothing to do with order", x.best(0, 2), leastOfTwo(four, 0, 2));
        due("best of none", new ClauseIndex().best(1, 0), 0);
        due("best of none", new ClauseIndex().best(1, 1), 0);
        due("best of none", new ClauseIndex().best(1, 2), 1);
        for (int mode : new int[] {LOWEST, -1, 2, HIGHEST}) due("best", x.best(mode, 0), -2);
        for (int what : new int[] {LOWEST, -1, 3, HIGHEST}) due("best", x.best(0, what), -2);
    }

    /** Quotients of many kinds: n clauses r, m clauses s, t and so on, of which like ones cover each other. */
    private static void rates() {
        for (int n = 0; n <= 24; n++) {
            for (int m = 0; n + m <= 24; m += 3) {
                ClauseIndex x = new ClauseIndex();
                Talk.query(x, "r");
                for (int i = 0; i < n; i++) x.keep();
                Talk.query(x, "p(a)");
                for (int i = 0; i < m; i++) x.keep();
                int above = n * (n - 1) + m * (m - 1);
                int below = (n + m) * (n + m - 1);
                int due = below == 0 ? 0 : Float.floatToIntBits((float) above / (float) below);
                due("rate of " + n + " and " + m, x.rate(0), due);
            }
        }
    }

    /** All values of the clauses, null where none is kept: each asked of an object that was made for it. */
    private static int[][] values(String[] texts, int mode) {
        int[][] values = new int[24][];
        for (int k = 0; k < texts.length; k++) {
            ClauseIndex x = Talk.of(texts[k]);
            values[k] = new int[40];
            for (int f = 0; f < 40; f++) values[k][f] = x.value(0, f, mode);
        }
        return values;
    }

    private static int leastOfTwo(String[] texts, int mode, int what) {
        int[][] values = values(texts, mode);
        int[] best = {HIGHEST, 0, 0};
        for (int f = 0; f < 40; f++) {
            for (int g = f + 1; g < 40; g++) {
                int left = 0;
                for (int a = 0; a < 24; a++) {
                    for (int b = 0; b < 24; b++) {
                        if (a != b && values[a] != null && values[b] != null
                            && values[a][f] <= values[b][f] && values[a][g] <= values[b][g]) left++;
                    }
                }
                if (left < best[0]) best = new int[] {left, f, g};
            }
        }
        return best[what];
    }

    // ---- all clauses

    private static void allClauses() {
        // 0 and 1 cover each other by sets; 2 is below both, 3 below 2; 4 is by itself; 5 like 4
        ClauseIndex x = Talk.of("p(x)|p(y)", "p(z)", "p(f(x))", "p(f(a))|p(f(b))", "-r", "-r");
        int[] modes = {LOWEST, -1, 2, HIGHEST};
        promise = 41;
        due("redundant", x.redundant(0), 2 + 4 + 8 + 32);
        due("redundant", x.redundant(1), 1 + 4 + 8 + 32);
        for (int mode : modes) due("redundant", x.redundant(mode), -2);

        promise = 43;
        due("tops", x.tops(0), 1 + 2 + 16 + 32);
        due("tops", x.tops(1), 2 + 16 + 32);
        for (int mode : modes) due("tops", x.tops(mode), -2);

        promise = 44;
        int[] row = {0, 2, 3, -1};
        due("chain", x.chain(0, -1), 3);
        for (int i = 0; i < 4; i++) due("chain " + i, x.chain(0, i), row[i]);
        due("chain", x.chain(1, -1), 3);
        due("chain", x.chain(1, 0), 1);
        due("chain", x.chain(1, 1), 0);
        due("chain", x.chain(1, 2), 3);
        due("chain", x.chain(0, HIGHEST), -1);
        due("chain", x.chain(0, -2), -3);
        due("chain", x.chain(1, LOWEST), -3);
        for (int mode : modes) due("chain", x.chain(mode, -2), -2);
        due("chain of none", new ClauseIndex().chain(0, -1), 0);
        due("chain of none", new ClauseIndex().chain(0, 0), -1);
        due("chain of like ones", full().chain(0, -1), 1);
        due("chain of like ones", full().chain(0, 0), 0);
        longChain();

        promise = 45;
        due("parts", x.parts(0), 4);
        due("parts", x.parts(1), 5);
        due("parts of none", new ClauseIndex().parts(0), 0);
        due("parts of like ones", full().parts(1), 1);
        for (int mode : modes) due("parts", x.parts(mode), -2);

        promise = 46;
        due("doubles", x.doubles(), 1);
        due("doubles of none", new ClauseIndex().doubles(), 0);
        due("doubles of like ones", full().doubles(), 23);
        due("doubles", Talk.of("q(x,y)", "q(y,x)", "q(x,x)", "q(u,v)", "q(z,z)").doubles(), 3);

        promise = 42;
        int undone = x.count(4);
        due("clean by numbers", x.clean(1), 4);
        due("count(1)", x.count(1), 2 + 16);
        due("count(4)", x.count(4), undone + 1);
        due("clean again", x.clean(1), 0);
        due("count(4)", x.count(4), undone + 1);
        due("undo", x.undo(1), undone);
        due("count(1)", x.count(1), 63);
        due("clean by sets", x.clean(0), 4);
        due("count(1)", x.count(1), 1 + 16);
        for (int mode : modes) due("clean", x.clean(mode), -2);
        due("clean of none", new ClauseIndex().clean(0), 0);
        x = full();
        due("clean of like ones", x.clean(0), 23);
        due("count(1)", x.count(1), 1);
    }

    /** Ever more literals, kept from the longest on: the least row goes against the numbers. */
    private static void longChain() {
        ClauseIndex x = new ClauseIndex();
        for (int n = 5; n >= 0; n--) {
            Talk.add(x, n == 0 ? "" : "r" + "|r".repeat(n - 1));
        }
        due("chain", x.chain(1, -1), 6);
        for (int i = 0; i < 6; i++) due("chain " + i, x.chain(1, i), 5 - i);
        due("chain", x.chain(0, -1), 2);
        due("chain", x.chain(0, 0), 5);
        due("chain", x.chain(0, 1), 0);
    }

    // ---- back

    private static void back() {
        undoing();
        whatIsUndone();
        images();
        counting();
    }

    private static void undoing() {
        promise = 47;
        ClauseIndex x = new ClauseIndex();
        due("undo(1)", x.undo(1), -3);
        for (int i = 0; i < 12; i++) x.keep();
        due("count(4)", x.count(4), 10);
        due("undo(0)", x.undo(0), -3);
        due("undo(-1)", x.undo(-1), -3);
        due("undo(11)", x.undo(11), -3);
        due("undo(lowest)", x.undo(LOWEST), -3);
        due("undo(highest)", x.undo(HIGHEST), -3);
        due("undo(3)", x.undo(3), 7);
        due("count(0)", x.count(0), 9);
        due("undo(8)", x.undo(8), -3);
        due("count(0)", x.count(0), 9);
        x.lay(3);
        due("count(4)", x.count(4), 8);
        due("undo(8)", x.undo(8), 0);
        due("count(0)", x.count(0), 2);
        due("count(3)", x.count(3), 0);
        due("undo(1)", x.undo(1), -3);
        for (int i = 0; i < 10; i++) x.keep();
        due("undo(10)", x.undo(10), 0);
        due("count(1)", x.count(1), 3);
    }

    private static void whatIsUndone() {
        ClauseIndex x = Talk.of("p(x)", "p(a)");
        x.lay(5);
        x.unlay();
        x.remove(0);
        due("count(4)", x.count(4), 5);
        Talk.query(x, "s(a)");
        Talk.feed(x, "r");
        due("undo", x.undo(1), 4);
        due("count(1)", x.count(1), 3);
        due("codes", Talk.codes(x, 0), "100 23");
        due("the query stays", Talk.codes(x, 24), "106 3");
        due("the tape stays", x.count(5), 20);
        due("undo", x.undo(1), 3);
        due("order", order(x), "5");
        due("tops", x.tops(0), 1);
        due("undo", x.undo(2), 1);
        due("tops behind undo", x.tops(0), 1);
        due("pairs behind undo", x.pairs(0, 1), 0);
        due("order", order(x), "");
        // calls that are refused, or change nothing of it
        x.remove(5);
        x.unlay();
        x.lay(40);
        x.add(30);
        x.take(0);
        x.clean(0);
        x.choose(0, 0);
        x.greedy(0, 0);
        x.image(0);
        due("count(4)", x.count(4), 1);
        x.choose(2, 0);
        due("count(4)", x.count(4), 2);
        x.greedy(3, 0);
        due("count(4)", x.count(4), 3);
        due("undo", x.undo(1), 2);
        due("count(3)", x.count(3), 2);
    }

    private static void images() {
        promise = 48;
        ClauseIndex x = Talk.of("p(x)", "p(a)");
        x.lay(7);
        Talk.query(x, "r");
        due("image(1)", x.image(1), 0);
        due("what can be undone stays", x.count(4), 3);
        for (int i : new int[] {LOWEST, -1, 2, HIGHEST}) due("image", x.image(i), -2);

        promise = 49;
        due("restore(0)", x.restore(0), -6);
        for (int i : new int[] {LOWEST, -1, 2, HIGHEST}) due("restore", x.restore(i), -2);
        due("what can be undone stays", x.count(4), 3);
        x.remove(1);
        x.lay(8);
        Talk.add(x, "s(x)");
        Talk.query(x, "");
        due("image(0)", x.image(0), 0);
        Talk.feed(x, "r");
        due("restore(1)", x.restore(1), 0);
        due("count(1)", x.count(1), 3);
        due("codes", Talk.codes(x, 1), "100 3");
        due("order", order(x), "7");
        due("query", Talk.codes(x, 24), "104");
        due("the tape stays", x.count(5), 20);
        due("nothing can be undone", x.count(4), 0);
        due("undo", x.undo(1), -3);
        due("tops", x.tops(0), 1);
        due("restore(0)", x.restore(0), 0);
        due("codes", Talk.codes(x, 1), "106 23");
        due("tops behind restore", x.tops(0), 3);
        due("order", order(x), "7 8");
        due("query", x.literals(24), 0);
        x.keep();
        due("count(4)", x.count(4), 1);
        due("restore again", x.restore(1), 0);
        due("count(1)", x.count(1), 3);
        due("image over it", x.image(0), 0);
        x.remove(0);
        due("restore", x.restore(0), 0);
        due("query", Talk.codes(x, 24), "104");
        due("count(1)", x.count(1), 3);
    }

    private static void counting() {
        promise = 50;
        ClauseIndex x = Talk.of("p(x)", "r", "q(a,b)|r", "");
        x.remove(1);
        x.lay(3);
        x.lay(2);
        x.take(2);
        Talk.feed(x, "x");
        Talk.feed(x, "x");
        int[] due = {3, 1 + 4 + 8, 4, 2, 7, 40};
        for (int what = 0; what < 6; what++) due("count(" + what + ")", x.count(what), due[what]);
        for (int what : new int[] {LOWEST, -1, 6, HIGHEST}) due("count(" + what + ")", x.count(what), -1);
    }
}
