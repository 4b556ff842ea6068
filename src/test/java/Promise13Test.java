/** Promise 13, sentence by sentence: nodeAlt. */
public final class Promise13Test {
    private static final Getter ALT = new Getter("nodeAlt", (x, node) -> x.nodeAlt(node), -1);

    public static void main(String[] args) {
        sentence("out of range -> -1", ALT::belowZero);
        sentence("out of range -> -1", ALT::fromNodeCountOn);
        sentence("out of range -> -1", ALT::withoutTree);
        sentence("all node getters change nothing", ALT::changesNothing);
        sentence("rule node -> its alternative number (1 or more)", Promise13Test::numbers);
        sentence("token node -> 0", Promise13Test::tokens);
        sentence("rule node -> its alternative number (1 or more); token node -> 0", Promise13Test::keeps);
        Check.end();
    }

    private static void sentence(String words, Runnable test) {
        Check.sentence("Promise 13", words, test);
    }

    // The last alternative of a full grammar is number 16, and is numbered within its own rule only.
    private static void numbers() {
        String[] alts = new String[16];
        for (int i = 0; i < 16; i++) {
            alts[i] = "A=" + (char) ('a' + i);
        }
        AdaptiveLlStar x = Check.compiled(alts);
        for (int i = 0; i < 16; i++) {
            Check.same("parse()", Check.parse(x, String.valueOf((char) ('a' + i))), AdaptiveLlStar.PARSE_ACCEPT);
            ALT.sameAll(x, i + 1, 0);
        }
        AdaptiveLlStar y = Check.compiled("H=a", "H=b", "B=a", "H=c", "A=HB", "B=b");
        Check.same("parse()", Check.parse(y, "cb"), AdaptiveLlStar.PARSE_ACCEPT);
        ALT.sameAll(y, 1, 3, 0, 2, 0);
        AdaptiveLlStar z = Check.compiled("A=a", "A=");
        Check.same("parse()", Check.parse(z, ""), AdaptiveLlStar.PARSE_ACCEPT);
        ALT.sameAll(z, 2);
    }

    private static void tokens() {
        AdaptiveLlStar x = Check.compiled("A=a", "A=bcdefghijklp");
        Check.same("parse()", Check.parse(x, "bcdefghijklp"), AdaptiveLlStar.PARSE_ACCEPT);
        ALT.sameAll(x, 2, 0, 0, 0, 0, 0, 0, 0, 0, 0, 0, 0, 0);
        // Where a rule node stood in the tree before, a token node may stand now.
        x.clearGrammar();
        Check.add(x, "A=BBB", "A=bbb", "B=a", "B=c");
        Check.same("compile()", x.compile(), AdaptiveLlStar.COMPILE_OK);
        Check.same("parse()", Check.parse(x, "aca"), AdaptiveLlStar.PARSE_ACCEPT);
        ALT.sameAll(x, 1, 1, 0, 2, 0, 1, 0);
        Check.same("parse()", Check.parse(x, "bbb"), AdaptiveLlStar.PARSE_ACCEPT);
        ALT.sameAll(x, 2, 0, 0, 0);
    }

    private static void keeps() {
        ALT.keepsAnswers(2, 0, 3, 0, 2, 0, 1, 0, 1);
    }
}
