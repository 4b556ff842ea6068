/** Promise 1, sentence by sentence: construction. */
public final class Promise01Test {
    private static final int[] FAR = {Integer.MIN_VALUE, Integer.MIN_VALUE + 1, -65536, -100, -12, -8, -2, -1, 0};

    public static void main(String[] args) {
        sentence("accepts every pair of ints", Promise01Test::everyPair);
        sentence("the most tokens the input may hold", Promise01Test::tokenLimitIsTheFirstArgument);
        sentence("below 1 becomes 1", Promise01Test::tooFewTokens);
        sentence("above 12 becomes 12", Promise01Test::tooManyTokens);
        sentence("values in 1..12 are kept", Promise01Test::tokensKept);
        sentence("the most nodes a kept tree may have (rule and token nodes together)", Promise01Test::bothKindsCount);
        sentence("below 8 becomes 8", Promise01Test::tooFewNodes);
        sentence("above 64 becomes 64", Promise01Test::tooManyNodes);
        sentence("values in 8..64 are kept", Promise01Test::nodesKept);
        sentence("Both limits are fixed for the life of the object.", Promise01Test::limitsAreFixed);
        sentence("A fresh object has no alternatives", Promise01Test::noAlternatives);
        sentence("no current alternative", Promise01Test::noCurrentAlternative);
        sentence("the compiled flag clear", Promise01Test::notCompiled);
        sentence("an empty input", Promise01Test::emptyInput);
        sentence("`nodeCount()` 0", Promise01Test::noNodes);
        sentence("error position 0", Promise01Test::noError);
        sentence("on a fresh object `compile()` answers `COMPILE_NO_START`", Promise01Test::compileOnFresh);
        sentence("`parse()` answers `PARSE_NOT_COMPILED`", Promise01Test::parseOnFresh);
        sentence("`errorPosition()` answers 0", Promise01Test::errorPositionOnFresh);
        sentence("every node getter answers -1 (or false for `nodeAmbiguous`) for every argument",
                Promise01Test::gettersOnFresh);
        Check.end();
    }

    private static void sentence(String words, Runnable test) {
        Check.sentence("Promise 1", words, test);
    }

    private static int clamped(int value, int least, int most) {
        return Math.max(least, Math.min(most, value));
    }

    private static void tokenLimit(int given, int due) {
        Check.same("tokens taken with tokenLimit " + given, Check.room(new AdaptiveLlStar(given, 64)), due);
        Check.same("tokens taken with tokenLimit " + given, Check.room(new AdaptiveLlStar(given, 8)), due);
    }

    private static void nodeLimit(int given, int due) {
        nodeLimit(new AdaptiveLlStar(12, given), given, due);
        nodeLimit(new AdaptiveLlStar(1, given), given, due);
    }

    private static void nodeLimit(AdaptiveLlStar x, int given, int due) {
        x.clearInput();
        Check.compileTreeOf(x, due);
        Check.same("parse() of " + due + " nodes within " + given, x.parse(), AdaptiveLlStar.PARSE_ACCEPT);
        Check.same("nodeCount() within " + given, x.nodeCount(), due);
        Check.compileTreeOf(x, due + 1);
        Check.same("parse() of " + (due + 1) + " nodes within " + given, x.parse(), AdaptiveLlStar.PARSE_TOO_BIG);
    }

    private static void everyPair() {
        int[] values = {Integer.MIN_VALUE, -13, -1, 0, 1, 2, 7, 8, 9, 11, 12, 13, 63, 64, 65, Integer.MAX_VALUE};
        for (int tokens : values) {
            for (int nodes : values) {
                AdaptiveLlStar x = new AdaptiveLlStar(tokens, nodes);
                Check.same("tokens taken with " + tokens + ", " + nodes, Check.room(x), clamped(tokens, 1, 12));
                nodeLimit(x, nodes, clamped(nodes, 8, 64));
            }
        }
    }

    private static void tokenLimitIsTheFirstArgument() {
        Check.same("tokens taken with 3, 9", Check.room(new AdaptiveLlStar(3, 9)), 3);
        Check.same("tokens taken with 9, 10", Check.room(new AdaptiveLlStar(9, 10)), 9);
        AdaptiveLlStar x = new AdaptiveLlStar(9, 12);
        nodeLimit(x, 12, 12);
        Check.same("tokens taken with 9, 12", Check.room(x), 9);
    }

    private static void tooFewTokens() {
        for (int given : FAR) {
            tokenLimit(given, 1);
        }
    }

    private static void tooManyTokens() {
        int[] givens = {13, 14, 16, 24, 64, 100, 256, 65536 + 3, Integer.MAX_VALUE - 1, Integer.MAX_VALUE};
        for (int given : givens) {
            tokenLimit(given, 12);
        }
    }

    private static void tokensKept() {
        for (int given = 1; given <= 12; given++) {
            tokenLimit(given, given);
        }
    }

    private static void bothKindsCount() {
        AdaptiveLlStar tokens = Check.compiledWithin(12, 8, "A=aaaaaaa", "A=aaaaaaaa");
        Check.same("parse() of seven tokens below one rule", Check.parse(tokens, "aaaaaaa"),
                AdaptiveLlStar.PARSE_ACCEPT);
        Check.same("nodeCount()", tokens.nodeCount(), 8);
        Check.tooBig(tokens, "aaaaaaaa");
        AdaptiveLlStar rules = Check.compiledWithin(12, 8, "A=aBBBBBB", "A=bBBBBBBB", "B=");
        Check.same("parse() of seven rules and a token", Check.parse(rules, "a"), AdaptiveLlStar.PARSE_ACCEPT);
        Check.same("nodeCount()", rules.nodeCount(), 8);
        Check.tooBig(rules, "b");
    }

    private static void tooFewNodes() {
        for (int given : FAR) {
            nodeLimit(given, 8);
        }
        for (int given = 1; given < 8; given++) {
            nodeLimit(given, 8);
        }
    }

    private static void tooManyNodes() {
        int[] givens = {65, 66, 100, 128, 256, 65536 + 9, Integer.MAX_VALUE - 1, Integer.MAX_VALUE};
        for (int given : givens) {
            nodeLimit(given, 64);
        }
    }

    private static void nodesKept() {
        for (int given = 8; given <= 64; given++) {
            nodeLimit(given, given);
        }
    }

    private static void limitsAreFixed() {
        for (String state : new String[] {"rejected", "too big"}) {
            AdaptiveLlStar x = States.make(state);
            int tokens = state.equals("rejected") ? 3 : 5;
            int nodes = state.equals("rejected") ? 20 : 8;
            for (int turn = 0; turn < 3; turn++) {
                Check.same("tokens taken", Check.room(x), tokens);
                Check.same("tokens taken again", Check.room(x), tokens);
                x.parse();
                x.clearInput();
                nodeLimit(x, nodes, nodes);
                x.clearGrammar();
                Check.same("compile() of nothing", x.compile(), AdaptiveLlStar.COMPILE_NO_START);
            }
        }
        AdaptiveLlStar small = new AdaptiveLlStar(1, 8);
        AdaptiveLlStar great = new AdaptiveLlStar(12, 64);
        Check.same("tokens taken by the small one", Check.room(small), 1);
        Check.same("tokens taken by the great one", Check.room(great), 12);
        nodeLimit(new AdaptiveLlStar(0, 0), 0, 8);
        great.clearInput();
        nodeLimit(great, 64, 64);
    }

    private static AdaptiveLlStar fresh() {
        return new AdaptiveLlStar(12, 64);
    }

    private static void noAlternatives() {
        AdaptiveLlStar x = fresh();
        Check.add(x, "A=B");
        Check.same("compile() with no other rule", x.compile(), AdaptiveLlStar.COMPILE_UNDEFINED_RULE);
        Check.add(x, "B=a");
        Check.same("compile()", x.compile(), AdaptiveLlStar.COMPILE_OK);
        Check.accepts(x, "a", "A10-1^-1 B10-1^0 a0-1^1");
        AdaptiveLlStar y = fresh();
        int alts = 0;
        while (alts < 100 && y.beginAlt(0)) {
            alts++;
        }
        Check.same("alternatives that a fresh one takes", alts, 16);
        int symbols = 0;
        while (symbols < 100 && y.addTerminal(0)) {
            symbols++;
        }
        Check.same("symbols that a fresh one takes", symbols, 48);
    }

    private static void noCurrentAlternative() {
        AdaptiveLlStar x = fresh();
        Check.same("addTerminal(0)", x.addTerminal(0), false);
        Check.same("addRule(0)", x.addRule(0), false);
    }

    private static void notCompiled() {
        AdaptiveLlStar x = fresh();
        x.token(0);
        Check.same("parse()", x.parse(), AdaptiveLlStar.PARSE_NOT_COMPILED);
    }

    private static void emptyInput() {
        AdaptiveLlStar x = Check.compiled("A=aA", "A=");
        Check.same("parse() of the fresh input", x.parse(), AdaptiveLlStar.PARSE_ACCEPT);
        Check.same("its result", Check.result(x), "0: A20-0^-1");
        AdaptiveLlStar y = fresh();
        for (int i = 0; i < 12; i++) {
            Check.same("token " + i, y.token(0), true);
        }
    }

    private static void noNodes() {
        Check.same("nodeCount()", fresh().nodeCount(), 0);
        Check.same("nodeCount()", new AdaptiveLlStar(Integer.MIN_VALUE, Integer.MAX_VALUE).nodeCount(), 0);
    }

    private static void noError() {
        AdaptiveLlStar x = Check.grammar("A=a");
        Check.feed(x, "aab");
        Check.same("errorPosition() before a parse", x.errorPosition(), 0);
        Check.same("parse()", x.parse(), AdaptiveLlStar.PARSE_NOT_COMPILED);
        Check.same("errorPosition() after a refused one", x.errorPosition(), 0);
    }

    private static void compileOnFresh() {
        AdaptiveLlStar x = fresh();
        Check.same("compile()", x.compile(), AdaptiveLlStar.COMPILE_NO_START);
        Check.same("compile() again", x.compile(), AdaptiveLlStar.COMPILE_NO_START);
    }

    private static void parseOnFresh() {
        AdaptiveLlStar x = fresh();
        Check.same("parse()", x.parse(), AdaptiveLlStar.PARSE_NOT_COMPILED);
        x.compile();
        Check.same("parse() after compile()", x.parse(), AdaptiveLlStar.PARSE_NOT_COMPILED);
    }

    private static void errorPositionOnFresh() {
        Check.same("errorPosition()", fresh().errorPosition(), 0);
        Check.same("errorPosition()", new AdaptiveLlStar(Integer.MAX_VALUE, Integer.MIN_VALUE).errorPosition(), 0);
    }

    private static void gettersOnFresh() {
        AdaptiveLlStar x = fresh();
        for (int node : Check.outside(0, -1)) {
            Check.nothingAt(x, node);
        }
        Check.nothingOutOfRange(new AdaptiveLlStar(-1, 1000));
    }
}
