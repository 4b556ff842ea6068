/**
 * What the tests share: a short notation for grammars, inputs and trees, and
 * the count of wrong answers.
 *
 * A capital letter stands for a rule (A is rule 0), a small one for a terminal
 * (a is 0): "A=aBb" is an alternative of rule 0, "B=" an empty one of rule 1.
 */
final class Check {
    private static int wrong = 0;

    private Check() {
    }

    static void same(String what, long got, long due) {
        if (got != due) {
            tell(what + " answered " + got + ", due is " + due);
        }
    }

    static void same(String what, boolean got, boolean due) {
        if (got != due) {
            tell(what + " answered " + got + ", due is " + due);
        }
    }

    static void same(String what, String got, String due) {
        if (!got.equals(due)) {
            tell(what + "\n    answered " + got + "\n    due is   " + due);
        }
    }

    static void tell(String fault) {
        wrong++;
        System.out.println(fault);
    }

    /** Ends the program, with exit code 1 if an answer was wrong. */
    static void end() {
        if (wrong != 0) {
            System.out.println(wrong + " wrong");
            System.exit(1);
        }
    }

    static AdaptiveLlStar grammar(String... alts) {
        AdaptiveLlStar x = new AdaptiveLlStar(12, 64);
        add(x, alts);
        return x;
    }

    static AdaptiveLlStar compiled(String... alts) {
        return compiledWithin(12, 64, alts);
    }

    static AdaptiveLlStar compiledWithin(int tokenLimit, int nodeLimit, String... alts) {
        AdaptiveLlStar x = new AdaptiveLlStar(tokenLimit, nodeLimit);
        add(x, alts);
        same("compile() of " + String.join(" ", alts), x.compile(), AdaptiveLlStar.COMPILE_OK);
        return x;
    }

    static void add(AdaptiveLlStar x, String... alts) {
        for (String alt : alts) {
            same("beginAlt for " + alt, x.beginAlt(alt.charAt(0) - 'A'), true);
            for (int i = 2; i < alt.length(); i++) {
                same("adding symbol " + i + " of " + alt, addSymbol(x, alt.charAt(i)), true);
            }
        }
    }

    static boolean addSymbol(AdaptiveLlStar x, char symbol) {
        return Character.isUpperCase(symbol) ? x.addRule(symbol - 'A') : x.addTerminal(symbol - 'a');
    }

    static void feed(AdaptiveLlStar x, String tokens) {
        for (int i = 0; i < tokens.length(); i++) {
            same("token " + i + " of " + tokens, x.token(tokens.charAt(i) - 'a'), true);
        }
    }

    static int parse(AdaptiveLlStar x, String tokens) {
        x.clearInput();
        feed(x, tokens);
        return x.parse();
    }

    static void accepts(AdaptiveLlStar x, String tokens, String tree) {
        same("parse() of " + tokens, parse(x, tokens), AdaptiveLlStar.PARSE_ACCEPT);
        same("result for " + tokens, result(x), tokens.length() + ": " + tree);
    }

    static void rejects(AdaptiveLlStar x, String tokens, int errorPosition) {
        same("parse() of " + tokens, parse(x, tokens), AdaptiveLlStar.PARSE_REJECT);
        same("result for " + tokens, result(x), errorPosition + ": ");
    }

    static void tooBig(AdaptiveLlStar x, String tokens) {
        same("parse() of " + tokens, parse(x, tokens), AdaptiveLlStar.PARSE_TOO_BIG);
        same("result for " + tokens, result(x), tokens.length() + ": ");
    }

    /**
     * The error position and every node: a rule with its alternative number,
     * or a terminal; '!' if it is ambiguous; its span; '^' and its parent.
     */
    static String result(AdaptiveLlStar x) {
        StringBuilder text = new StringBuilder();
        text.append(x.errorPosition()).append(": ");
        for (int node = 0; node < x.nodeCount(); node++) {
            int alt = x.nodeAlt(node);
            text.append(node == 0 ? "" : " ");
            text.append((char) ((alt == 0 ? 'a' : 'A') + x.nodeSymbol(node)));
            text.append(alt == 0 ? "" : alt);
            text.append(x.nodeAmbiguous(node) ? "!" : "");
            text.append(x.nodeStart(node)).append('-').append(x.nodeEnd(node));
            text.append('^').append(x.nodeParent(node));
        }
        return text.toString();
    }

    static final int[] FAR = {
        -1, -2, -64, 64, 65, 1000, 1 << 16, 1 << 30, Integer.MAX_VALUE, Integer.MIN_VALUE, Integer.MIN_VALUE + 1
    };

    /** Every node getter at nodes that are out of range. */
    static void nothingOutOfRange(AdaptiveLlStar x) {
        for (int node : FAR) {
            nothingAt(x, node);
        }
        for (int node = x.nodeCount(); node < 70; node++) {
            nothingAt(x, node);
        }
    }

    private static void nothingAt(AdaptiveLlStar x, int node) {
        same("nodeSymbol(" + node + ")", x.nodeSymbol(node), -1);
        same("nodeAlt(" + node + ")", x.nodeAlt(node), -1);
        same("nodeParent(" + node + ")", x.nodeParent(node), -1);
        same("nodeStart(" + node + ")", x.nodeStart(node), -1);
        same("nodeEnd(" + node + ")", x.nodeEnd(node), -1);
        same("nodeAmbiguous(" + node + ")", x.nodeAmbiguous(node), false);
    }
}
