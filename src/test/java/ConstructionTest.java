/** Promise 1. */
public final class ConstructionTest {
    public static void main(String[] args) {
        freshObject();
        tokenLimitIsClamped();
        nodeLimitIsClamped();
        limitsStay();
        objectsShareNothing();
        Check.end();
    }

    private static void freshObject() {
        int[] limits = {Integer.MIN_VALUE, -1, 0, 1, 8, 12, 64, Integer.MAX_VALUE};
        for (int tokenLimit : limits) {
            for (int nodeLimit : limits) {
                AdaptiveLlStar x = new AdaptiveLlStar(tokenLimit, nodeLimit);
                Check.same("fresh nodeCount()", x.nodeCount(), 0);
                Check.same("fresh errorPosition()", x.errorPosition(), 0);
                Check.nothingOutOfRange(x);
                Check.same("fresh addTerminal(0)", x.addTerminal(0), false);
                Check.same("fresh addRule(0)", x.addRule(0), false);
                Check.same("fresh parse()", x.parse(), AdaptiveLlStar.PARSE_NOT_COMPILED);
                Check.same("fresh compile()", x.compile(), AdaptiveLlStar.COMPILE_NO_START);
                Check.same("parse() after it", x.parse(), AdaptiveLlStar.PARSE_NOT_COMPILED);
                Check.add(x, "A=");
                Check.same("compile()", x.compile(), AdaptiveLlStar.COMPILE_OK);
                Check.same("parse() of the fresh input", x.parse(), AdaptiveLlStar.PARSE_ACCEPT);
                Check.same("its result", Check.result(x), "0: A10-0^-1");
            }
        }
    }

    private static void tokenLimitIsClamped() {
        tokenLimit(Integer.MIN_VALUE, 1);
        tokenLimit(-1, 1);
        tokenLimit(0, 1);
        for (int limit = 1; limit <= 12; limit++) {
            tokenLimit(limit, limit);
        }
        tokenLimit(13, 12);
        tokenLimit(64, 12);
        tokenLimit(Integer.MAX_VALUE, 12);
    }

    private static void tokenLimit(int given, int due) {
        AdaptiveLlStar x = new AdaptiveLlStar(given, 64);
        int taken = 0;
        for (int i = 0; i < 20; i++) {
            taken += x.token(0) ? 1 : 0;
        }
        Check.same("tokens taken with tokenLimit " + given, taken, due);
    }

    private static void nodeLimitIsClamped() {
        nodeLimit(Integer.MIN_VALUE, 8);
        nodeLimit(-1, 8);
        nodeLimit(0, 8);
        nodeLimit(7, 8);
        for (int limit = 8; limit <= 64; limit++) {
            nodeLimit(limit, limit);
        }
        nodeLimit(65, 64);
        nodeLimit(100, 64);
        nodeLimit(Integer.MAX_VALUE, 64);
    }

    private static void nodeLimit(int given, int due) {
        AdaptiveLlStar x = new AdaptiveLlStar(12, given);
        Check.same("code with " + due + " nodes", codeOfTree(x, due), AdaptiveLlStar.PARSE_ACCEPT);
        Check.same("nodeCount() with " + due + " nodes", x.nodeCount(), due);
        Check.same("code with " + (due + 1) + " nodes", codeOfTree(x, due + 1), AdaptiveLlStar.PARSE_TOO_BIG);
        Check.same("nodeCount() with " + (due + 1) + " nodes", x.nodeCount(), 0);
    }

    private static int codeOfTree(AdaptiveLlStar x, int nodes) {
        Check.compileTreeOf(x, nodes);
        return x.parse();
    }

    private static void limitsStay() {
        AdaptiveLlStar x = Check.compiledWithin(3, 8, "A=aA", "A=");
        Check.accepts(x, "aaa", "A10-3^-1 a0-1^0 A11-3^0 a1-2^2 A12-3^2 a2-3^4 A23-3^4");
        Check.same("token beyond the limit", x.token(0), false);
        x.clearInput();
        x.clearGrammar();
        Check.add(x, "A=aAB", "A=", "B=");
        Check.same("compile()", x.compile(), AdaptiveLlStar.COMPILE_OK);
        Check.tooBig(x, "aaa");
        Check.same("token beyond the limit", x.token(0), false);
    }

    private static void objectsShareNothing() {
        AdaptiveLlStar x = Check.compiled("A=aA", "A=");
        Check.accepts(x, "a", "A10-1^-1 a0-1^0 A21-1^0");
        AdaptiveLlStar y = Check.compiled("A=b");
        Check.rejects(y, "a", 0);
        Check.same("result of the other", Check.result(x), "1: A10-1^-1 a0-1^0 A21-1^0");
        Check.same("its parse again", x.parse(), AdaptiveLlStar.PARSE_ACCEPT);
    }
}
