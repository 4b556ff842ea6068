/** Promises 12 to 16: nodeSymbol, nodeAlt, nodeParent, nodeStart and nodeEnd, nodeAmbiguous. */
public final class TreeTest {
    public static void main(String[] args) {
        everyGetterAtEveryNode();
        outOfRange();
        gettersChangeNothing();
        nextSiblingComesAfterTheWholeSubtree();
        emptyNodesAtTheEnd();
        longestTree();
        symbolsOfBothKinds();
        twinAlternativesAreAmbiguous();
        ambiguityKeepsWhatCameBefore();
        ambiguityIsOfTheAlternativeAlone();
        ambiguityBehindTheNode();
        marksAreCleared();
        Check.end();
    }

    private static void node(AdaptiveLlStar x, int node, int symbol, int alt, int parent, int start, int end) {
        Check.same("nodeSymbol(" + node + ")", x.nodeSymbol(node), symbol);
        Check.same("nodeAlt(" + node + ")", x.nodeAlt(node), alt);
        Check.same("nodeParent(" + node + ")", x.nodeParent(node), parent);
        Check.same("nodeStart(" + node + ")", x.nodeStart(node), start);
        Check.same("nodeEnd(" + node + ")", x.nodeEnd(node), end);
    }

    private static void everyGetterAtEveryNode() {
        AdaptiveLlStar x = Check.compiled("A=p", "A=bHc", "H=", "H=a", "H=aH");
        Check.same("parse()", Check.parse(x, "baac"), AdaptiveLlStar.PARSE_ACCEPT);
        Check.same("nodeCount()", x.nodeCount(), 7);
        node(x, 0, 0, 2, -1, 0, 4);
        node(x, 1, 1, 0, 0, 0, 1);
        node(x, 2, 7, 3, 0, 1, 3);
        node(x, 3, 0, 0, 2, 1, 2);
        node(x, 4, 7, 2, 2, 2, 3);
        node(x, 5, 0, 0, 4, 2, 3);
        node(x, 6, 2, 0, 0, 3, 4);
        for (int i = 0; i < 7; i++) {
            Check.same("nodeAmbiguous(" + i + ")", x.nodeAmbiguous(i), i == 4);
        }
        Check.same("parse()", Check.parse(x, "p"), AdaptiveLlStar.PARSE_ACCEPT);
        node(x, 1, 15, 0, 0, 0, 1);
    }

    private static void outOfRange() {
        AdaptiveLlStar x = Check.compiled("A=aA", "A=aA", "A=");
        Check.nothingOutOfRange(x);
        for (int length = 12; length >= 0; length--) {
            Check.same("parse()", Check.parse(x, "a".repeat(length)), AdaptiveLlStar.PARSE_ACCEPT);
            Check.same("nodeCount()", x.nodeCount(), 2 * length + 1);
            Check.nothingOutOfRange(x);
        }
        Check.same("parse()", Check.parse(x, "aaaaaaaaaaaa"), AdaptiveLlStar.PARSE_ACCEPT);
        Check.rejects(x, "b", 0);
        Check.nothingOutOfRange(x);
    }

    private static void gettersChangeNothing() {
        AdaptiveLlStar x = Check.compiled("A=aA", "A=aA", "A=");
        Check.accepts(x, "a", "A1!0-1^-1 a0-1^0 A31-1^0");
        for (int turn = 0; turn < 3; turn++) {
            Check.nothingOutOfRange(x);
            Check.same("result", Check.result(x), "1: A1!0-1^-1 a0-1^0 A31-1^0");
        }
        Check.same("parse()", x.parse(), AdaptiveLlStar.PARSE_ACCEPT);
        Check.same("result", Check.result(x), "1: A1!0-1^-1 a0-1^0 A31-1^0");
    }

    private static void nextSiblingComesAfterTheWholeSubtree() {
        AdaptiveLlStar x = Check.compiled("A=BcB", "B=CC", "C=a", "C=bD", "D=d");
        Check.accepts(x, "abdcbda", "A10-7^-1 B10-3^0 C10-1^1 a0-1^2 C21-3^1 b1-2^4 D12-3^4 d2-3^6 c3-4^0"
                + " B14-7^0 C24-6^9 b4-5^10 D15-6^10 d5-6^12 C16-7^9 a6-7^14");
    }

    private static void emptyNodesAtTheEnd() {
        AdaptiveLlStar x = Check.compiled("A=BaCD", "B=", "C=B", "D=BB");
        Check.accepts(x, "a", "A10-1^-1 B10-0^0 a0-1^0 C11-1^0 B11-1^3 D11-1^0 B11-1^5 B11-1^5");
    }

    private static void longestTree() {
        AdaptiveLlStar x = Check.compiled("A=BA", "A=BC", "B=aDD", "C=", "D=");
        // Eleven times A B a D D, and then A B a D D C.
        Check.same("parse()", Check.parse(x, "aaaaaaaaaaaa"), AdaptiveLlStar.PARSE_ACCEPT);
        Check.same("nodeCount()", x.nodeCount(), 61);
        node(x, 55, 0, 2, 50, 11, 12);
        node(x, 60, 2, 1, 55, 12, 12);
        x.clearGrammar();
        Check.add(x, "A=BA", "A=BCDDD", "B=aDD", "C=", "D=");
        Check.same("compile()", x.compile(), AdaptiveLlStar.COMPILE_OK);
        Check.same("parse()", x.parse(), AdaptiveLlStar.PARSE_ACCEPT);
        Check.same("nodeCount()", x.nodeCount(), 64);
        node(x, 63, 3, 1, 55, 12, 12);
        Check.nothingOutOfRange(x);
        // A chain as deep as a kept tree can be, so that every node is closed at last.
        AdaptiveLlStar y = Check.compiled("A=aB", "B=C", "C=D", "D=E", "E=A", "E=");
        Check.same("parse()", Check.parse(y, "aaaaaaaaaa"), AdaptiveLlStar.PARSE_ACCEPT);
        Check.same("nodeCount()", y.nodeCount(), 60);
        for (int node = 0; node < 60; node++) {
            boolean isToken = node % 6 == 1;
            Check.same("nodeEnd(" + node + ")", y.nodeEnd(node), isToken ? node / 6 + 1 : 10);
        }
        Check.tooBig(y, "aaaaaaaaaaa");
    }

    private static void symbolsOfBothKinds() {
        AdaptiveLlStar x = Check.compiled("A=hH", "H=h", "H=aA");
        Check.accepts(x, "hahh", "A10-4^-1 h0-1^0 H21-4^0 a1-2^2 A12-4^2 h2-3^4 H13-4^4 h3-4^6");
    }

    private static void twinAlternativesAreAmbiguous() {
        Check.accepts(Check.compiled("A=a", "A=a"), "a", "A1!0-1^-1 a0-1^0");
        Check.accepts(Check.compiled("A=", "A="), "", "A1!0-0^-1");
        Check.accepts(Check.compiled("A=a", "A=b", "A=b", "A=b"), "b", "A2!0-1^-1 b0-1^0");
        Check.accepts(Check.compiled("A=BB", "B=a", "B=b", "B=b"), "ab", "A10-2^-1 B10-1^0 a0-1^1 B2!1-2^0 b1-2^3");
    }

    // The second B could only be empty or not together with the first one, which is kept.
    private static void ambiguityKeepsWhatCameBefore() {
        AdaptiveLlStar x = Check.compiled("A=BB", "B=a", "B=");
        Check.accepts(x, "a", "A10-1^-1 B1!0-1^0 a0-1^1 B21-1^0");
        AdaptiveLlStar y = Check.compiled("A=BB", "B=", "B=a");
        Check.accepts(y, "a", "A10-1^-1 B1!0-0^0 B20-1^0 a0-1^2");
        AdaptiveLlStar z = Check.compiled("A=cAdA", "A=cA", "A=b");
        Check.accepts(z, "ccbdb", "A1!0-5^-1 c0-1^0 A21-3^0 c1-2^2 A32-3^2 b2-3^4 d3-4^0 A34-5^0 b4-5^7");
    }

    // Two ways to split the input between the children are one choice for the node above them.
    private static void ambiguityIsOfTheAlternativeAlone() {
        AdaptiveLlStar x = Check.compiled("A=BB", "A=c", "B=aB", "B=a");
        Check.accepts(x, "aaa", "A10-3^-1 B1!0-2^0 a0-1^1 B21-2^1 a1-2^3 B22-3^0 a2-3^5");
        AdaptiveLlStar y = Check.compiled("A=Bb", "A=Bc", "A=Cc", "B=aB", "B=", "C=aC", "C=");
        Check.accepts(y, "ac", "A2!0-2^-1 B10-1^0 a0-1^1 B21-1^1 c1-2^0");
        Check.accepts(y, "ab", "A10-2^-1 B10-1^0 a0-1^1 B21-1^1 b1-2^0");
    }

    // An alternative that fits the next tokens but leaves a rest that nothing can read is no choice.
    private static void ambiguityBehindTheNode() {
        AdaptiveLlStar x = Check.compiled("A=Bc", "A=Bbc", "B=a", "B=ab");
        Check.accepts(x, "abc", "A1!0-3^-1 B20-2^0 a0-1^1 b1-2^1 c2-3^0");
        Check.accepts(x, "ac", "A10-2^-1 B10-1^0 a0-1^1 c1-2^0");
        AdaptiveLlStar y = Check.compiled("A=CD", "C=B", "D=bD", "D=c", "B=a", "B=ab", "B=abb");
        Check.accepts(y, "abc", "A10-3^-1 C10-1^0 B1!0-1^1 a0-1^2 D11-3^0 b1-2^4 D22-3^4 c2-3^6");
        Check.accepts(y, "ac", "A10-2^-1 C10-1^0 B10-1^1 a0-1^2 D21-2^0 c1-2^4");
    }

    private static void marksAreCleared() {
        AdaptiveLlStar x = Check.compiled("A=BBB", "B=a", "B=a", "B=b", "B=c");
        Check.accepts(x, "aaa", "A10-3^-1 B1!0-1^0 a0-1^1 B1!1-2^0 a1-2^3 B1!2-3^0 a2-3^5");
        Check.accepts(x, "bcb", "A10-3^-1 B30-1^0 b0-1^1 B41-2^0 c1-2^3 B32-3^0 b2-3^5");
        x.clearGrammar();
        Check.add(x, "A=abcd");
        Check.same("compile()", x.compile(), AdaptiveLlStar.COMPILE_OK);
        Check.accepts(x, "abcd", "A10-4^-1 a0-1^0 b1-2^0 c2-3^0 d3-4^0");
    }
}
