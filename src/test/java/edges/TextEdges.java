/** Terms, first part: what a text may be, its faults and their places, its codes. */
final class TextEdges {
    private static final String FOUR_DEEP = "h(h(h(a,b),h(a,b)),h(h(a,b),h(a,b)))";
    /** 30 symbols in 5 literals of depth 5: the longest text that can be a clause. */
    private static final String LONGEST = "-p(f(f(f(f(a)))))|-s(g(g(g(g(b)))))|-p(f(f(f(f(c)))))|-s(g(g(g(g(d)))))|-p(f(f(f(f(e)))))";

    private TextEdges() { }

    static void run() {
        Sentences.terms();
        grammar();
        limits();
        faults();
        codes();
    }

    private static void reads(String text, int literals) {
        ClauseIndex x = new ClauseIndex();
        Sentences.due("query " + text, Talk.query(x, text), literals);
        Sentences.due("fault(0) of " + text, x.fault(0), 0);
        Sentences.due("fault(1) of " + text, x.fault(1), -1);
        Sentences.due("add " + text, Talk.add(x, text), 0);
        Sentences.due("literals of " + text, x.literals(0), literals);
    }

    /** The sign ! stands ahead of the place and is none of the text. */
    private static void fault(String marked, int fault) {
        String text = marked.replace("!", "");
        ClauseIndex x = new ClauseIndex();
        for (int round = 0; round < 2; round++) {
            int answer = round == 0 ? Talk.query(x, text) : Talk.add(x, text);
            Sentences.due((round == 0 ? "query " : "add ") + text, answer, -30 - fault);
            Sentences.due("fault(0) of " + text, x.fault(0), fault);
            Sentences.due("fault(1) of " + text, x.fault(1), marked.indexOf('!'));
        }
    }

    private static void putReads(String text) {
        ClauseIndex x = new ClauseIndex();
        Sentences.due("apply " + text, Talk.apply(x, text), 0);
        Sentences.due("fault(0) of " + text, x.fault(0), 0);
        Sentences.due("fault(1) of " + text, x.fault(1), -1);
    }

    private static void putFault(String marked, int fault) {
        String text = marked.replace("!", "");
        ClauseIndex x = new ClauseIndex();
        Sentences.due("apply " + text, Talk.apply(x, text), -30 - fault);
        Sentences.due("fault(0) of " + text, x.fault(0), fault);
        Sentences.due("fault(1) of " + text, x.fault(1), marked.indexOf('!'));
    }

    /** Of all 256 bytes exactly some can stand behind a beginning: others are fault 1 at that place, these none there. */
    private static void canStand(String ahead, String bytes, boolean put) {
        for (int b = 0; b < 256; b++) {
            ClauseIndex x = new ClauseIndex();
            String text = ahead + (char) b;
            int answer = put ? Talk.apply(x, text) : Talk.query(x, text);
            boolean here = x.fault(0) == 1 && x.fault(1) == ahead.length();
            Sentences.due("byte " + b + " behind " + ahead, here ? 0 : 1, bytes.indexOf(b) >= 0 ? 1 : 0);
            Sentences.due("byte " + b + " behind " + ahead + ", answered", here ? answer : -31, -31);
        }
    }

    private static void grammar() {
        Sentences.sentence("A CLAUSE in bytes, nothing between:");
        fault("! r", 1);
        fault("r! ", 1);
        fault("p(!\tx)", 1);
        fault("r|! r", 1);
        fault("-! r", 1);
        fault("q(x,! y)", 1);
        fault("r!\n", 1);
        fault("r!\u0000", 1);

        Sentences.sentence("CLAUSE: nothing, or LITERAL { \"|\" LITERAL } (5 LITERALS at most)");
        reads("", 0);
        reads("r", 1);
        reads("r|r", 2);
        reads("p(x)|-q(x,y)|r|-s(f(x))", 4);
        reads("r|r|r|r|r", 5);
        reads(LONGEST, 5);
        fault("r|r|r|r|r!|r", 2);
        fault("!|", 1);
        fault("r|!", 1);
        fault("r|!|r", 1);
        canStand("", "-pqrs", false);
        canStand("r", "|", false);
        canStand("p(x)", "|", false);
        canStand("r|", "-pqrs", false);

        Sentences.sentence("LITERAL: [ \"-\" ] ( \"p\" \"(\" TERM \")\" | \"q\" \"(\" TERM \",\" TERM \")\" | \"r\" | \"s\" \"(\" TERM \")\" )");
        for (String sign : new String[] {"", "-"}) {
            for (String text : new String[] {"p(a)", "q(a,b)", "r", "s(a)"}) reads(sign + text, 1);
        }
        canStand("-", "pqrs", false);
        for (String head : new String[] {"p", "q", "s", "-p"}) canStand(head, "(", false);
        canStand("-r", "|", false);
        canStand("p(a", ")", false);
        canStand("s(a", ")", false);
        canStand("q(a", ",", false);
        canStand("q(a,b", ")", false);

        Sentences.sentence("TERM: \"u\" to \"z\" (a VARIABLE, 0 to 5) | \"a\" to \"e\" | \"f\" \"(\" TERM \")\" | \"g\" \"(\" TERM \")\" | "
            + "\"h\" \"(\" TERM \",\" TERM \")\"");
        for (String term : "u v w x y z a b c d e f(a) g(a) h(a,b) f(g(h(x,f(y))))".split(" ")) reads("p(" + term + ")", 1);
        for (String ahead : new String[] {"p(", "s(", "q(", "q(a,", "p(f(", "p(g(", "p(h(", "p(h(a,"}) {
            canStand(ahead, "uvwxyzabcdefgh", false);
        }
        for (String head : new String[] {"p(f", "p(g", "p(h"}) canStand(head, "(", false);
        canStand("p(f(a", ")", false);
        canStand("p(g(x", ")", false);
        canStand("p(h(a", ",", false);
        canStand("p(h(a,b", ")", false);
        canStand("p(f(a)", ")", false);
        canStand("q(h(a,b)", ",", false);
        for (int v = 0; v < 6; v++) {
            Sentences.due("variable " + v, Sentences.asking("p(" + (char) ('u' + v) + ")").variables(24), 1 << v);
        }

        Sentences.sentence("A PUT: a VARIABLE, \"=\", TERM.");
        for (char v = 'u'; v <= 'z'; v++) putReads(v + "=a");
        for (String term : "u z a e f(a) g(x) h(x,y)".split(" ")) putReads("x=" + term);
        canStand("", "uvwxyz", true);
        canStand("x", "=", true);
        canStand("x=", "uvwxyzabcdefgh", true);
        canStand("x=a", "", true);
        canStand("x=f(a)", "", true);
        canStand("x=h(a", ",", true);
        putFault("!", 1);
        putFault("x!", 1);
        putFault("x=!", 1);
        putFault("x=a!|y=b", 1);
        putFault("!r", 1);
        fault("!x=a", 1);
    }

    private static void limits() {
        Sentences.sentence("SYMBOLS: p, q, r, s (PREDICATES 0 to 3), f, g, h, a, b, c, d, e (0 to 7), VARIABLES: 30 in a CLAUSE, "
            + "in a PUT (its VARIABLE, too) at most.");
        // 1 and 15 and 14
        String thirty = "q(" + FOUR_DEEP + ",h(h(h(a,b),h(a,b)),h(f(a),h(x,y))))";
        reads(thirty, 1);
        Sentences.due("count(2)", Sentences.asking(thirty).count(2), 30);
        reads(LONGEST, 5);
        Sentences.due("count(2)", Sentences.asking(LONGEST).count(2), 30);
        fault(thirty + "|!r", 3);
        fault(thirty + "|-!r", 3);
        fault("q(" + FOUR_DEEP + ",h(h(h(a,b),h(a,b)),h(h(a,b),h(x,!y))))", 3);
        // the variable, 1 and 15 and 13
        putReads("x=h(" + FOUR_DEEP + ",h(h(h(a,b),h(a,b)),h(a,h(x,y))))");
        putReads("x=h(" + FOUR_DEEP + ",h(h(h(a,b),h(a,b)),h(f(a),f(x))))");
        putFault("x=h(" + FOUR_DEEP + ",h(h(h(a,b),h(a,b)),h(f(a),h(x,!y))))", 3);

        Sentences.sentence("DEPTH of a SYMBOL in a TERM: 1 (it begins it), one more for each f, g, h that it is in; 5 at most.");
        ClauseIndex x = Sentences.asking("p(a)|-p(f(h(b,g(c))))|q(d,g(e))");
        int[] features = {24 + 6, 24 + 1, 24 + 5, 24 + 9, 24 + 3, 24 + 11, 24 + 12, 24 + 2, 24 + 14};
        int[] depths = {1, 1, 2, 3, 3, 4, 1, 1, 2};
        for (int i = 0; i < features.length; i++) Sentences.due("value", x.value(24, features[i], 1), depths[i]);
        for (String leaf : new String[] {"a", "e", "u", "z"}) {
            reads("p(f(g(f(g(" + leaf + ")))))", 1);
            reads("q(a,h(b,h(c,h(d,h(e," + leaf + ")))))", 1);
            reads("q(h(h(h(h(" + leaf + ",e),d),c),b),a)", 1);
            putReads("x=f(g(f(g(" + leaf + "))))");
            fault("p(f(g(f(g(f(!" + leaf + "))))))", 4);
            fault("q(a,h(b,h(c,h(d,h(e,h(!" + leaf + ",a))))))", 4);
            fault("q(a,h(b,h(c,h(d,h(e,f(!" + leaf + "))))))", 4);
            putFault("x=f(g(f(g(f(!" + leaf + ")))))", 4);
            putFault("x=h(b,h(c,h(d,h(e,g(!" + leaf + ")))))", 4);
        }
        // behind a deep term the depth is less again
        reads("q(f(f(f(f(a)))),f(f(f(f(b)))))|p(f(f(f(f(c)))))", 2);
        reads("p(h(f(f(f(a))),h(f(f(b)),f(f(c)))))", 1);

        Sentences.sentence("Among LITERALS, the SAME one may stand several times.");
        reads("r|r|r|r|r", 5);
        reads("p(x)|p(x)", 2);
        reads("-q(a,f(y))|-q(a,f(y))|-q(a,f(y))", 3);
        Sentences.due("codes", Talk.codes(Sentences.asking("-r|-r|p(a)|p(a)"), 24), "105 105 100 3 100 3");
    }

    private static void faults() {
        Sentences.sentence("FAULTS: 1 a byte that can't stand here, or the end where it can't be (its place: how many bytes there are);");
        String[] bytes = {"!t", "!(", "-!-r", "p!)", "p(!)", "p(a!,a)", "q(a!)", "q(a,!)", "r!()", "s!|", "p(f!a)", "r!=", "p(x!=a)", "!a", "!x"};
        for (String text : bytes) fault(text, 1);
        fault(LONGEST + "!r", 1);
        String[] ends = {"-", "p", "-q", "p(", "p(a", "q(a", "q(a,", "q(a,b", "p(f", "p(f(", "p(f(a", "p(f(a)", "p(h(a", "p(h(a,", "r|", "r|-", "r|r|r|r|"};
        for (String text : ends) fault(text + "!", 1);
        for (String text : new String[] {"", "x", "x=", "x=f", "x=f(", "x=f(a", "x=h(a", "x=h(a,"}) putFault(text + "!", 1);
        // the end is where n says, not where the tape ends
        ClauseIndex x = new ClauseIndex();
        Talk.feed(x, "p(a)");
        Sentences.due("add(3)", x.add(3), -31);
        Sentences.due("fault(1)", x.fault(1), 3);
        Talk.feed(x, "x=a");
        Sentences.due("apply(2)", x.apply(2), -31);
        Sentences.due("fault(1)", x.fault(1), 2);
        // a full tape has a hundred bytes: the last one of them may be the wrong one
        x = new ClauseIndex();
        Talk.feed(x, "p(a)" + "|".repeat(96));
        Sentences.due("query(100)", x.query(100), -31);
        Sentences.due("fault(1)", x.fault(1), 5);

        Sentences.sentence("2 the \"|\" behind a fifth LITERAL;");
        fault("r|r|r|r|r!|", 2);
        fault("-r|p(a)|-q(a,b)|s(x)|p(f(y))!|-r", 2);
        fault("r|r|r|r|r!|t", 2);
        fault("r|r|r|r|r!||", 2);
        fault(LONGEST + "!|r", 2);
        fault("r|r|r|r!t|r|r", 1);

        Sentences.sentence("3 a 31st SYMBOL;");
        String nineteen = "q(h(h(h(a,b),h(a,b)),h(h(a,b),c)),h(h(a,b),c))|";
        fault(nineteen + "q(f(f(a)),f(f(b)))|p(f(f(f(!x", 3);
        fault(nineteen + "q(f(f(a)),f(f(b)))|p(f(g(f(!f", 3);
        fault(nineteen + "q(f(f(a)),f(f(b)))|p(f(f(a)))|-!p", 3);
        fault(nineteen + "q(f(f(a)),f(f(b)))|p(f(f(a)))|!r", 3);
        fault(nineteen + "q(f(f(a)),f(f(b)))|p(f(f(a)))|-!s(x)", 3);
        putFault("x=h(" + FOUR_DEEP + ",h(h(h(a,b),h(a,b)),h(f(a),h(x,!h", 3);

        Sentences.sentence("4 a SYMBOL of DEPTH 6.");
        for (String text : new String[] {"a", "x", "f(a)", "h(a,b)", "g"}) fault("-s(f(f(g(g(h(!" + text, 4);
        for (String text : new String[] {"a", "x", "f(a)", "h(a,b)", "g"}) putFault("z=f(f(g(g(h(!" + text, 4);
        // f, g and h of depth 5 may stand, but nothing in their brackets
        fault("p(f(f(f(f(f!", 1);
        fault("p(f(f(f(f(f(!", 1);
        fault("p(f(f(f(f(f(!)", 1);

        Sentences.sentence("The first along the text;");
        fault("p(f(f(f(f(f(!a))))))|t|r|r|r|r|r", 4);
        fault("!t|p(f(f(f(f(f(a))))))", 1);
        fault("r|r|r|r|r!|p(f(f(f(f(f(a))))))", 2);
        fault("r|r|r|r|p(f(f(f(f(f(!a))))))|r", 4);
        fault(nineteen + "q(f(f(a)),f(f(b)))|p(f(f(a)))|!r|r|r", 3);
        fault(nineteen + "p(f(f(f(f(f(!a))))))|q(f(f(a)),f(f(b)))|p(f(f(a)))", 4);
        fault("p(a!|p(f(f(f(f(f(a))))))", 1);
        putFault("!a=f(f(f(f(f(a)))))", 1);
        putFault("x=f(f(f(f(f(!a))))))", 4);

        Sentences.sentence("of one place the least (of a byte that can't stand there: 1).");
        // 30 symbols, the next one would be the 31st and of depth 6
        String deep = "q(" + FOUR_DEEP + ",h(h(h(a,b),h(a,b)),h(h(a,h(a,f(";
        fault(deep + "!x", 3);
        fault(deep + "!a", 3);
        fault(deep + "!h", 3);
        fault(deep + "!p", 1);
        fault(deep + "!)", 1);
        fault(deep + "!", 1);
        fault("p(f(f(f(f(f(!q", 1);
        fault("p(f(f(f(f(f(!t", 1);
        fault(nineteen + "q(f(f(a)),f(f(b)))|p(f(f(a)))|!a", 1);
        fault(nineteen + "q(f(f(a)),f(f(b)))|p(f(f(a)))|!", 1);
        fault("r|r|r|r|r!r", 1);
        String put = "x=h(" + FOUR_DEEP + ",h(h(h(a,b),h(a,b)),h(a,h(a,f(";
        putFault(put + "!x", 3);
        putFault(put + "!r", 1);
        putFault(put + "!", 1);
    }

    private static void codes() {
        Sentences.sentence("CODES of a CLAUSE, SYMBOL by SYMBOL as they stand: a PREDICATE 100, twice it and 1 if \"-\" is ahead, added; "
            + "f to e 0 to 7; a VARIABLE 20 and it.");
        Sentences.due("codes", Talk.codes(Sentences.asking("p(a)|-p(b)|q(c,d)|-q(e,f(a))|r"), 24), "100 3 101 4 102 5 6 103 7 0 3 104");
        Sentences.due("codes", Talk.codes(Sentences.asking("-r|s(g(u))|-s(h(v,w))|q(x,y)|p(z)"), 24),
            "105 106 1 20 107 2 21 22 102 23 24 100 25");
        Sentences.due("codes", Talk.codes(Sentences.asking("q(h(f(a),g(x)),h(y,h(b,c)))"), 24), "102 2 0 3 1 23 2 24 2 4 5");
        Sentences.due("codes", Talk.codes(Sentences.asking(""), 24), "");
    }
}
