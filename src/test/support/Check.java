import java.util.TreeSet;

/**
 * What the tests share: a short notation for grammars, inputs and trees, and
 * the count of wrong answers.
 *
 * A capital letter stands for a rule (A is rule 0), a small one for a terminal
 * (a is 0): "A=aBb" is an alternative of rule 0, "B=" an empty one of rule 1.
 */
final class Check {
    private static final int MOST_TOLD = 20;

    private static int wrong = 0;
    private static int told = 0;
    private static String about = "";

    private Check() {
    }

    /**
     * Runs the test of one sentence of the document. What it finds is told with
     * the place and the words of the sentence, and a test that breaks off does
     * not keep the tests after it from being run.
     */
    static void sentence(String place, String words, Runnable test) {
        about = place + ", \"" + words + "\": ";
        told = 0;
        try {
            test.run();
        } catch (RuntimeException | StackOverflowError fault) {
            tell("broke off with " + fault);
        }
        about = "";
        told = 0;
    }

    static void same(String what, long got, long due) {
        if (got != due) {
            tell(what + " answered " + got + ", due is " + due);
        }
    }

    static void same(String what, boolean got, boolean due) {
        if (got != due) {
            tell(what + " answered " + got + ", due is " + due);
        }
    }

    static void same(String what, String got, String due) {
        if (!got.equals(due)) {
            tell(what + "\n    answered " + got + "\n    due is   " + due);
        }
    }

    static void tell(String fault) {
        wrong++;
        told++;
        // One fault can make thousands of answers wrong; the first ones show it.
        if (told <= MOST_TOLD) {
            System.out.println(about + fault);
        }
    }

    /** Ends the program, with exit code 1 if an answer was wrong. */
    static void end() {
        if (wrong != 0) {
            System.out.println(wrong + " wrong");
            System.exit(1);
        }
    }

    static AdaptiveLlStar grammar(String... alts) {
        AdaptiveLlStar x = new AdaptiveLlStar(12, 64);
        add(x, alts);
        return x;
    }

    static AdaptiveLlStar compiled(String... alts) {
        return compiledWithin(12, 64, alts);
    }

    static AdaptiveLlStar compiledWithin(int tokenLimit, int nodeLimit, String... alts) {
        AdaptiveLlStar x = new AdaptiveLlStar(tokenLimit, nodeLimit);
        add(x, alts);
        same("compile() of " + String.join(" ", alts), x.compile(), AdaptiveLlStar.COMPILE_OK);
        return x;
    }

    static void add(AdaptiveLlStar x, String... alts) {
        for (String alt : alts) {
            same("beginAlt for " + alt, x.beginAlt(alt.charAt(0) - 'A'), true);
            for (int i = 2; i < alt.length(); i++) {
                same("adding symbol " + i + " of " + alt, addSymbol(x, alt.charAt(i)), true);
            }
        }
    }

    static boolean addSymbol(AdaptiveLlStar x, char symbol) {
        return Character.isUpperCase(symbol) ? x.addRule(symbol - 'A') : x.addTerminal(symbol - 'a');
    }

    static void feed(AdaptiveLlStar x, String tokens) {
        for (int i = 0; i < tokens.length(); i++) {
            same("token " + i + " of " + tokens, x.token(tokens.charAt(i) - 'a'), true);
        }
    }

    static int parse(AdaptiveLlStar x, String tokens) {
        x.clearInput();
        feed(x, tokens);
        return x.parse();
    }

    static void accepts(AdaptiveLlStar x, String tokens, String tree) {
        same("parse() of " + tokens, parse(x, tokens), AdaptiveLlStar.PARSE_ACCEPT);
        same("result for " + tokens, result(x), tokens.length() + ": " + tree);
    }

    static void rejects(AdaptiveLlStar x, String tokens, int errorPosition) {
        same("parse() of " + tokens, parse(x, tokens), AdaptiveLlStar.PARSE_REJECT);
        same("result for " + tokens, result(x), errorPosition + ": ");
    }

    static void tooBig(AdaptiveLlStar x, String tokens) {
        same("parse() of " + tokens, parse(x, tokens), AdaptiveLlStar.PARSE_TOO_BIG);
        same("result for " + tokens, result(x), tokens.length() + ": ");
    }

    /**
     * The error position and every node: a rule with its alternative number,
     * or a terminal; '!' if it is ambiguous; its span; '^' and its parent.
     */
    static String result(AdaptiveLlStar x) {
        StringBuilder text = new StringBuilder();
        text.append(x.errorPosition()).append(": ");
        for (int node = 0; node < x.nodeCount(); node++) {
            int alt = x.nodeAlt(node);
            text.append(node == 0 ? "" : " ");
            text.append((char) ((alt == 0 ? 'a' : 'A') + x.nodeSymbol(node)));
            text.append(alt == 0 ? "" : alt);
            text.append(x.nodeAmbiguous(node) ? "!" : "");
            text.append(x.nodeStart(node)).append('-').append(x.nodeEnd(node));
            text.append('^').append(x.nodeParent(node));
        }
        return text.toString();
    }

    /** Ints below least and above most: the nearest, the farthest, and some that look right in their low bits. */
    static int[] outside(int least, int most) {
        TreeSet<Integer> found = new TreeSet<>();
        for (int i = 1; i <= 300; i++) {
            found.add(least - i);
            found.add(most + i);
        }
        for (int bit = 3; bit < 32; bit++) {
            for (int i = -1; i <= 24; i++) {
                found.add((1 << bit) + i);
                found.add(i - (1 << bit));
            }
        }
        return found.stream().mapToInt(i -> i).filter(i -> i < least || i > most).toArray();
    }

    /** How many tokens the input takes when it is empty. */
    static int room(AdaptiveLlStar x) {
        x.clearInput();
        int taken = 0;
        while (taken < 100 && x.token(0)) {
            taken++;
        }
        return taken;
    }

    /** Gives a grammar whose only tree for the empty input has so many nodes, 1 to 65. */
    static void compileTreeOf(AdaptiveLlStar x, int nodes) {
        int below = nodes - 1;
        int doubles = below > 40 ? below - 40 : 0;
        int singles = below - 2 * doubles;
        x.clearGrammar();
        add(x, "A=" + "C".repeat(doubles) + "B".repeat(singles), "B=", "C=B");
        same("compile()", x.compile(), AdaptiveLlStar.COMPILE_OK);
    }

    static final int[] FAR = {
        -1, -2, -64, 64, 65, 1000, 1 << 16, 1 << 30, Integer.MAX_VALUE, Integer.MIN_VALUE, Integer.MIN_VALUE + 1
    };

    /** Every node getter at nodes that are out of range. */
    static void nothingOutOfRange(AdaptiveLlStar x) {
        for (int node : FAR) {
            nothingAt(x, node);
        }
        for (int node = x.nodeCount(); node < 70; node++) {
            nothingAt(x, node);
        }
    }

    static void nothingAt(AdaptiveLlStar x, int node) {
        same("nodeSymbol(" + node + ")", x.nodeSymbol(node), -1);
        same("nodeAlt(" + node + ")", x.nodeAlt(node), -1);
        same("nodeParent(" + node + ")", x.nodeParent(node), -1);
        same("nodeStart(" + node + ")", x.nodeStart(node), -1);
        same("nodeEnd(" + node + ")", x.nodeEnd(node), -1);
        same("nodeAmbiguous(" + node + ")", x.nodeAmbiguous(node), false);
    }
}
