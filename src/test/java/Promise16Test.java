/** Promise 16, sentence by sentence: nodeAmbiguous. */
public final class Promise16Test {
    private static final Getter MARK = new Getter("nodeAmbiguous", (x, node) -> x.nodeAmbiguous(node) ? 1 : 0, 0);

    public static void main(String[] args) {
        sentence("out of range or token node -> false", MARK::belowZero);
        sentence("out of range or token node -> false", Promise16Test::behindMarkedNodes);
        sentence("out of range or token node -> false", MARK::withoutTree);
        sentence("all node getters change nothing", MARK::changesNothing);
        sentence("out of range or token node -> false", Promise16Test::tokens);
        sentence("rule node -> whether it is ambiguous as defined above", Promise16Test::numberOfChoices);
        sentence("rule node -> whether it is ambiguous as defined above", Promise16Test::firstAndLastNode);
        sentence("rule node -> whether it is ambiguous as defined above", Promise16Test::keptBefore);
        sentence("rule node -> whether it is ambiguous as defined above", Promise16Test::restOfTheInput);
        sentence("rule node -> whether it is ambiguous as defined above", Promise16Test::keeps);
        Check.end();
    }

    private static void sentence(String words, Runnable test) {
        Check.sentence("Promise 16", words, test);
    }

    /** After longer trees that were marked everywhere. */
    private static void behindMarkedNodes() {
        AdaptiveLlStar x = Check.compiled("A=BA", "A=BA", "A=", "A=", "B=a", "B=a");
        for (int length = 12; length >= 0; length--) {
            Check.same("parse()", Check.parse(x, "a".repeat(length)), AdaptiveLlStar.PARSE_ACCEPT);
            for (int node = x.nodeCount(); node < 70; node++) {
                MARK.same(x, node, 0);
            }
            for (int node : Check.outside(0, 64)) {
                MARK.same(x, node, 0);
            }
        }
    }

    private static void tokens() {
        AdaptiveLlStar x = Check.compiled("A=BBB", "A=BBB", "B=a", "B=a", "B=b");
        Check.same("parse()", Check.parse(x, "aaa"), AdaptiveLlStar.PARSE_ACCEPT);
        MARK.sameAll(x, 1, 1, 0, 1, 0, 1, 0);
        x.clearGrammar();
        Check.add(x, "A=aaaaaa", "A=aaaaaa");
        Check.same("compile()", x.compile(), AdaptiveLlStar.COMPILE_OK);
        Check.same("parse()", Check.parse(x, "aaaaaa"), AdaptiveLlStar.PARSE_ACCEPT);
        MARK.sameAll(x, 1, 0, 0, 0, 0, 0, 0);
    }

    private static void numberOfChoices() {
        AdaptiveLlStar one = Check.compiled("A=a", "A=b");
        Check.same("parse()", Check.parse(one, "a"), AdaptiveLlStar.PARSE_ACCEPT);
        MARK.sameAll(one, 0, 0);
        AdaptiveLlStar two = Check.compiled("A=a", "A=b", "A=a");
        Check.same("parse()", Check.parse(two, "a"), AdaptiveLlStar.PARSE_ACCEPT);
        MARK.sameAll(two, 1, 0);
        Check.same("parse()", Check.parse(two, "b"), AdaptiveLlStar.PARSE_ACCEPT);
        MARK.sameAll(two, 0, 0);
        for (int choices = 3; choices <= 16; choices++) {
            AdaptiveLlStar many = new AdaptiveLlStar(12, 64);
            for (int i = 0; i < choices; i++) {
                Check.add(many, "A=");
            }
            Check.same("compile()", many.compile(), AdaptiveLlStar.COMPILE_OK);
            Check.same("parse()", many.parse(), AdaptiveLlStar.PARSE_ACCEPT);
            MARK.sameAll(many, 1);
        }
    }

    private static void firstAndLastNode() {
        AdaptiveLlStar first = Check.compiled("A=aB", "A=ab", "B=b");
        Check.same("parse()", Check.parse(first, "ab"), AdaptiveLlStar.PARSE_ACCEPT);
        MARK.sameAll(first, 1, 0, 0, 0);
        AdaptiveLlStar last = Check.compiled("A=aB", "B=", "B=C", "C=");
        Check.same("parse()", Check.parse(last, "a"), AdaptiveLlStar.PARSE_ACCEPT);
        MARK.sameAll(last, 0, 0, 1);
        AdaptiveLlStar atTheEnd = Check.compiled("A=aA", "A=", "A=");
        Check.same("parse()", Check.parse(atTheEnd, "aaaaaaaaaaaa"), AdaptiveLlStar.PARSE_ACCEPT);
        for (int node = 0; node < 25; node++) {
            MARK.same(atTheEnd, node, node == 24 ? 1 : 0);
        }
    }

    // The same rule over the same tokens is a choice as long as nothing before it is fixed.
    private static void keptBefore() {
        AdaptiveLlStar x = Check.compiled("A=BBB", "B=a", "B=");
        Check.same("parse()", Check.parse(x, "a"), AdaptiveLlStar.PARSE_ACCEPT);
        MARK.sameAll(x, 0, 1, 0, 0, 0);
        Check.same("parse()", Check.parse(x, "aa"), AdaptiveLlStar.PARSE_ACCEPT);
        MARK.sameAll(x, 0, 1, 0, 1, 0, 0);
        Check.same("parse()", Check.parse(x, "aaa"), AdaptiveLlStar.PARSE_ACCEPT);
        MARK.sameAll(x, 0, 0, 0, 0, 0, 0, 0);
        AdaptiveLlStar y = Check.compiled("A=BBB", "B=", "B=a");
        Check.same("parse()", Check.parse(y, "a"), AdaptiveLlStar.PARSE_ACCEPT);
        MARK.sameAll(y, 0, 1, 1, 0, 0);
    }

    private static void restOfTheInput() {
        AdaptiveLlStar x = Check.compiled("A=Bc", "A=Bbc", "B=a", "B=ab");
        Check.same("parse()", Check.parse(x, "abc"), AdaptiveLlStar.PARSE_ACCEPT);
        MARK.sameAll(x, 1, 0, 0, 0, 0);
        Check.same("parse()", Check.parse(x, "ac"), AdaptiveLlStar.PARSE_ACCEPT);
        MARK.sameAll(x, 0, 0, 0, 0);
        // The other way need not fit into nodeLimit.
        AdaptiveLlStar y = Check.compiledWithin(12, 8, "A=B", "B=a", "B=CCCCCCCC", "C=a", "C=");
        Check.same("parse()", Check.parse(y, "a"), AdaptiveLlStar.PARSE_ACCEPT);
        MARK.sameAll(y, 0, 1, 0);
        // Two ways below a node are no choice at the node itself.
        AdaptiveLlStar z = Check.compiled("A=B", "A=c", "B=CC", "B=c", "C=aC", "C=");
        Check.same("parse()", Check.parse(z, "a"), AdaptiveLlStar.PARSE_ACCEPT);
        MARK.sameAll(z, 0, 0, 1, 0, 0, 0);
    }

    private static void keeps() {
        MARK.keepsAnswers(0, 0, 0, 0, 1, 0, 0, 0, 0);
    }
}
