/** Promise 14, sentence by sentence: nodeParent. */
public final class Promise14Test {
    private static final Getter PARENT = new Getter("nodeParent", (x, node) -> x.nodeParent(node), -1);

    public static void main(String[] args) {
        sentence("out of range or node 0 -> -1", PARENT::belowZero);
        sentence("out of range or node 0 -> -1", PARENT::fromNodeCountOn);
        sentence("out of range or node 0 -> -1", PARENT::withoutTree);
        sentence("all node getters change nothing", PARENT::changesNothing);
        sentence("out of range or node 0 -> -1", Promise14Test::root);
        sentence("otherwise the number of its parent", Promise14Test::parents);
        sentence("which is a rule node numbered below it", Promise14Test::ruleNodeBelow);
        sentence("otherwise the number of its parent", Promise14Test::keeps);
        Check.end();
    }

    private static void sentence(String words, Runnable test) {
        Check.sentence("Promise 14", words, test);
    }

    private static void root() {
        AdaptiveLlStar x = Check.compiled("A=aA", "A=");
        for (int length = 12; length >= 0; length--) {
            Check.same("parse()", Check.parse(x, "a".repeat(length)), AdaptiveLlStar.PARSE_ACCEPT);
            PARENT.same(x, 0, -1);
        }
    }

    private static void parents() {
        AdaptiveLlStar flat = Check.compiled("A=abBaB", "B=");
        Check.same("parse()", Check.parse(flat, "aba"), AdaptiveLlStar.PARSE_ACCEPT);
        PARENT.sameAll(flat, -1, 0, 0, 0, 0, 0);
        AdaptiveLlStar deep = Check.compiled("A=aB", "B=C", "C=D", "D=E", "E=A", "E=");
        Check.same("parse()", Check.parse(deep, "aaaaaaaaaa"), AdaptiveLlStar.PARSE_ACCEPT);
        Check.same("nodeCount()", deep.nodeCount(), 60);
        for (int node = 1; node < 60; node++) {
            PARENT.same(deep, node, node % 6 == 2 ? node - 2 : node - 1);
        }
        AdaptiveLlStar both = Check.compiled("A=BcB", "B=CC", "C=a", "C=bD", "D=");
        Check.same("parse()", Check.parse(both, "abcba"), AdaptiveLlStar.PARSE_ACCEPT);
        PARENT.sameAll(both, -1, 0, 1, 2, 1, 4, 4, 0, 0, 8, 9, 9, 8, 12);
    }

    private static void ruleNodeBelow() {
        for (String state : new String[] {"accepted", "full"}) {
            AdaptiveLlStar x = States.make(state);
            for (int node = 1; node < x.nodeCount(); node++) {
                int parent = x.nodeParent(node);
                Check.same("nodeParent(" + node + ") is a node below it", parent >= 0 && parent < node, true);
                Check.same("nodeParent(" + node + ") is a rule node", x.nodeAlt(parent) >= 1, true);
            }
        }
    }

    private static void keeps() {
        PARENT.keepsAnswers(-1, 0, 0, 2, 2, 4, 0, 0, 0);
    }
}
