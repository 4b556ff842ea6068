/** Promise 15, sentence by sentence: nodeStart and nodeEnd. */
public final class Promise15Test {
    private static final Getter START = new Getter("nodeStart", (x, node) -> x.nodeStart(node), -1);
    private static final Getter END = new Getter("nodeEnd", (x, node) -> x.nodeEnd(node), -1);

    public static void main(String[] args) {
        String start = "`nodeStart(int node)`: out of range -> -1";
        sentence(start, START::belowZero);
        sentence(start, START::fromNodeCountOn);
        sentence(start, START::withoutTree);
        String end = "`nodeEnd(int node)`: out of range -> -1";
        sentence(end, END::belowZero);
        sentence(end, END::fromNodeCountOn);
        sentence(end, END::withoutTree);
        sentence("all node getters change nothing", START::changesNothing);
        sentence("all node getters change nothing", END::changesNothing);
        sentence("otherwise the first position of its covered span [start, end)", Promise15Test::starts);
        sentence("otherwise the end (exclusive) of its covered span", Promise15Test::ends);
        sentence("A token node standing for token i covers [i, i+1).", Promise15Test::tokens);
        sentence("A rule node whose alternative is empty covers [p, p).", Promise15Test::emptyRules);
        sentence("Every node has 0 <= `nodeStart` <= `nodeEnd` <= n", Promise15Test::order);
        sentence("where n is the input length at the parse that produced the tree", Promise15Test::inputGone);
        sentence("an empty rule node may cover [n, n)", Promise15Test::emptyAtTheEnd);
        Check.end();
    }

    private static void sentence(String words, Runnable test) {
        Check.sentence("Promise 15", words, test);
    }

    private static void starts() {
        START.keepsAnswers(0, 0, 1, 1, 2, 2, 3, 3, 4);
    }

    private static void ends() {
        END.keepsAnswers(4, 1, 3, 2, 3, 3, 3, 4, 4);
    }

    private static void tokens() {
        AdaptiveLlStar x = Check.compiled("A=abcdefghijkl", "A=a", "A=Bab", "B=");
        Check.same("parse()", Check.parse(x, "abcdefghijkl"), AdaptiveLlStar.PARSE_ACCEPT);
        START.sameAll(x, 0, 0, 1, 2, 3, 4, 5, 6, 7, 8, 9, 10, 11);
        END.sameAll(x, 12, 1, 2, 3, 4, 5, 6, 7, 8, 9, 10, 11, 12);
        Check.same("parse()", Check.parse(x, "a"), AdaptiveLlStar.PARSE_ACCEPT);
        START.sameAll(x, 0, 0);
        END.sameAll(x, 1, 1);
        Check.same("parse()", Check.parse(x, "ab"), AdaptiveLlStar.PARSE_ACCEPT);
        START.sameAll(x, 0, 0, 0, 1);
        END.sameAll(x, 2, 0, 1, 2);
    }

    private static void emptyRules() {
        AdaptiveLlStar x = Check.compiled("A=BaBBbC", "A=", "B=", "C=BB");
        Check.same("parse()", Check.parse(x, "ab"), AdaptiveLlStar.PARSE_ACCEPT);
        START.sameAll(x, 0, 0, 0, 1, 1, 1, 2, 2, 2);
        END.sameAll(x, 2, 0, 1, 1, 1, 2, 2, 2, 2);
        Check.same("parse()", Check.parse(x, ""), AdaptiveLlStar.PARSE_ACCEPT);
        START.sameAll(x, 0);
        END.sameAll(x, 0);
    }

    private static void order() {
        AdaptiveLlStar x = Check.compiled("A=BAC", "A=", "B=a", "B=bC", "C=", "C=c");
        String[] inputs = {"", "a", "ac", "bc", "bac", "bcac", "aaaaaa", "bcbcbc", "babaccc"};
        for (String tokens : inputs) {
            Check.same("parse() of " + tokens, Check.parse(x, tokens), AdaptiveLlStar.PARSE_ACCEPT);
            for (int node = 0; node < x.nodeCount(); node++) {
                int start = x.nodeStart(node);
                int end = x.nodeEnd(node);
                boolean inOrder = 0 <= start && start <= end && end <= tokens.length();
                Check.same("order of " + start + ", " + end + " in " + tokens, inOrder, true);
            }
        }
    }

    private static void inputGone() {
        AdaptiveLlStar x = Check.compiled("A=aA", "A=");
        Check.same("parse()", Check.parse(x, "aa"), AdaptiveLlStar.PARSE_ACCEPT);
        x.clearInput();
        START.sameAll(x, 0, 0, 1, 1, 2);
        END.sameAll(x, 2, 1, 2, 2, 2);
        Check.feed(x, "aaaaaaaaaaaa");
        START.sameAll(x, 0, 0, 1, 1, 2);
        END.sameAll(x, 2, 1, 2, 2, 2);
    }

    private static void emptyAtTheEnd() {
        AdaptiveLlStar x = Check.compiled("A=aA", "A=");
        for (int length = 0; length <= 12; length++) {
            Check.same("parse()", Check.parse(x, "a".repeat(length)), AdaptiveLlStar.PARSE_ACCEPT);
            START.same(x, 2 * length, length);
            END.same(x, 2 * length, length);
        }
    }
}
