/** Promise 11, sentence by sentence: nodeCount. */
public final class Promise11Test {
    public static void main(String[] args) {
        sentence("answers the number of nodes of the result tree", Promise11Test::counts);
        sentence("0 when there is none (fresh object", Promise11Test::fresh);
        sentence("after a parse answering `PARSE_REJECT`", Promise11Test::rejected);
        sentence("or `PARSE_TOO_BIG`)", Promise11Test::tooBig);
        sentence("It changes nothing.", Promise11Test::changesNothing);
        Check.end();
    }

    private static void sentence(String words, Runnable test) {
        Check.sentence("Promise 11", words, test);
    }

    private static void counts() {
        AdaptiveLlStar x = new AdaptiveLlStar(12, 64);
        for (int nodes = 1; nodes <= 64; nodes++) {
            Check.compileTreeOf(x, nodes);
            Check.same("parse()", x.parse(), AdaptiveLlStar.PARSE_ACCEPT);
            Check.same("nodeCount()", x.nodeCount(), nodes);
            x.clearGrammar();
            Check.same("nodeCount() of a kept tree", x.nodeCount(), nodes);
            Check.same("parse()", x.parse(), AdaptiveLlStar.PARSE_NOT_COMPILED);
            Check.same("nodeCount() after a refused parse", x.nodeCount(), nodes);
        }
        AdaptiveLlStar y = Check.compiled("A=aAb", "A=");
        Check.same("parse()", Check.parse(y, "aaaaaabbbbbb"), AdaptiveLlStar.PARSE_ACCEPT);
        Check.same("nodeCount() with token nodes", y.nodeCount(), 19);
        Check.same("parse()", Check.parse(y, "ab"), AdaptiveLlStar.PARSE_ACCEPT);
        Check.same("nodeCount() with token nodes", y.nodeCount(), 4);
    }

    private static void fresh() {
        AdaptiveLlStar x = new AdaptiveLlStar(12, 64);
        Check.same("nodeCount()", x.nodeCount(), 0);
        Check.add(x, "A=");
        Check.same("parse()", x.parse(), AdaptiveLlStar.PARSE_NOT_COMPILED);
        Check.same("nodeCount() after a refused parse", x.nodeCount(), 0);
        Check.same("compile()", x.compile(), AdaptiveLlStar.COMPILE_OK);
        Check.same("nodeCount() before the first parse", x.nodeCount(), 0);
    }

    private static void rejected() {
        AdaptiveLlStar x = Check.compiled("A=aA", "A=");
        Check.same("parse()", Check.parse(x, "b"), AdaptiveLlStar.PARSE_REJECT);
        Check.same("nodeCount()", x.nodeCount(), 0);
        Check.same("parse()", Check.parse(x, "aaa"), AdaptiveLlStar.PARSE_ACCEPT);
        Check.same("nodeCount()", x.nodeCount(), 7);
        Check.same("parse()", Check.parse(x, "aab"), AdaptiveLlStar.PARSE_REJECT);
        Check.same("nodeCount() after a tree", x.nodeCount(), 0);
    }

    private static void tooBig() {
        AdaptiveLlStar x = Check.compiledWithin(12, 8, "A=aA", "A=");
        Check.same("parse()", Check.parse(x, "aaaa"), AdaptiveLlStar.PARSE_TOO_BIG);
        Check.same("nodeCount()", x.nodeCount(), 0);
        Check.same("parse()", Check.parse(x, "aaa"), AdaptiveLlStar.PARSE_ACCEPT);
        Check.same("nodeCount()", x.nodeCount(), 7);
        Check.same("parse()", Check.parse(x, "aaaa"), AdaptiveLlStar.PARSE_TOO_BIG);
        Check.same("nodeCount() after a tree", x.nodeCount(), 0);
    }

    private static void changesNothing() {
        States.unchanged("nodeCount()", x -> {
            int first = x.nodeCount();
            Check.same("nodeCount() again", x.nodeCount(), first);
        });
    }
}
