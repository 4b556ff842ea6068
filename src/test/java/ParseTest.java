/** Promises 9 to 11: parse, errorPosition, nodeCount. */
public final class ParseTest {
    public static void main(String[] args) {
        refusedParseChangesNothing();
        acceptsSentences();
        rejectsAtTheViablePrefix();
        viablePrefixMayBeTheWholeInput();
        viablePrefixBehindNullableRules();
        tooBigTrees();
        hugeTreesEnd();
        emptyInput();
        firstDerivationLooksAhead();
        firstDerivationIsNotTheSmallest();
        parseKeepsGrammarAndInput();
        resultDoesNotDependOnThePast();
        Check.end();
    }

    private static void refusedParseChangesNothing() {
        AdaptiveLlStar x = Check.compiled("A=aA", "A=aA", "A=");
        String tree = "1: A1!0-1^-1 a0-1^0 A31-1^0";
        Check.accepts(x, "a", tree.substring(3));
        x.beginAlt(0);
        x.token(9);
        Check.same("parse()", x.parse(), AdaptiveLlStar.PARSE_NOT_COMPILED);
        Check.same("parse() again", x.parse(), AdaptiveLlStar.PARSE_NOT_COMPILED);
        Check.same("result", Check.result(x), tree);
        Check.same("addTerminal to the current one", x.addTerminal(9), true);
        Check.same("compile()", x.compile(), AdaptiveLlStar.COMPILE_OK);
        Check.same("parse()", x.parse(), AdaptiveLlStar.PARSE_ACCEPT);
        Check.same("result", Check.result(x), "2: A1!0-2^-1 a0-1^0 A41-2^0 j1-2^2");
        Check.rejects(x, "ba", 0);
        x.clearGrammar();
        Check.same("parse()", x.parse(), AdaptiveLlStar.PARSE_NOT_COMPILED);
        Check.same("result", Check.result(x), "0: ");
    }

    private static void acceptsSentences() {
        AdaptiveLlStar x = Check.compiled("A=BC", "B=aBb", "B=", "C=cC", "C=");
        Check.accepts(x, "abc", "A10-3^-1 B10-2^0 a0-1^1 B21-1^1 b1-2^1 C12-3^0 c2-3^5 C23-3^5");
        Check.accepts(x, "", "A10-0^-1 B20-0^0 C20-0^0");
        Check.accepts(x, "c", "A10-1^-1 B20-0^0 C10-1^0 c0-1^2 C21-1^2");
        Check.same("parse()", Check.parse(x, "aaaaaabbbbbb"), AdaptiveLlStar.PARSE_ACCEPT);
        Check.same("nodeCount()", x.nodeCount(), 21);
        Check.same("errorPosition()", x.errorPosition(), 12);
    }

    private static void rejectsAtTheViablePrefix() {
        AdaptiveLlStar x = Check.compiled("A=BC", "B=aBb", "B=", "C=cC", "C=");
        Check.rejects(x, "b", 0);
        Check.rejects(x, "abb", 2);
        Check.rejects(x, "abca", 3);
        Check.rejects(x, "ac", 1);
        Check.rejects(x, "aabcbb", 3);
        Check.rejects(x, "ccccccccccca", 11);
        Check.rejects(x, "p", 0);
        AdaptiveLlStar y = Check.compiled("A=abc", "A=aBd", "B=bb", "B=bcd");
        Check.rejects(y, "abbb", 3);
        Check.rejects(y, "abce", 3);
        Check.rejects(y, "abcdc", 4);
        Check.rejects(y, "abcdd" + "d", 5);
        Check.rejects(y, "ba", 0);
    }

    private static void viablePrefixMayBeTheWholeInput() {
        AdaptiveLlStar x = Check.compiled("A=aBc", "B=bB", "B=b");
        Check.rejects(x, "", 0);
        Check.rejects(x, "a", 1);
        Check.rejects(x, "abb", 3);
        Check.rejects(x, "abbbbbbbbbbb", 12);
        Check.accepts(x, "abc", "A10-3^-1 a0-1^0 B21-2^0 b1-2^2 c2-3^0");
    }

    private static void viablePrefixBehindNullableRules() {
        AdaptiveLlStar x = Check.compiled("A=BCDa", "B=", "B=b", "C=B", "D=", "D=dC");
        Check.rejects(x, "bbd", 3);
        Check.rejects(x, "bbdbb", 4);
        Check.rejects(x, "ab", 1);
        Check.rejects(x, "dd", 1);
        AdaptiveLlStar y = Check.compiled("A=HGFEDCBa", "H=G", "G=F", "F=E", "E=D", "D=C", "C=B", "B=b", "B=");
        Check.rejects(y, "bbbbbbb", 7);
        Check.rejects(y, "bbbbbbbb", 7);
        AdaptiveLlStar z = Check.compiled("H=hA", "H=", "G=gH", "F=fG", "E=eF", "D=dE", "C=cD", "B=bC", "A=aB");
        Check.rejects(z, "abcdefghabcc", 11);
        Check.rejects(z, "abcdefghabcd", 12);
    }

    private static void tooBigTrees() {
        AdaptiveLlStar x = Check.compiledWithin(12, 9, "A=aA", "A=");
        Check.same("parse()", Check.parse(x, "aaaa"), AdaptiveLlStar.PARSE_ACCEPT);
        Check.same("nodeCount()", x.nodeCount(), 9);
        Check.tooBig(x, "aaaaa");
        Check.nothingOutOfRange(x);
        Check.rejects(x, "aaaaaaab", 7);
        AdaptiveLlStar y = Check.compiledWithin(12, 8, "A=aaaaaaa", "A=bbbbbbbb", "A=cB", "B=CC",
                "C=d", "C=dD", "D=e");
        Check.same("parse()", Check.parse(y, "aaaaaaa"), AdaptiveLlStar.PARSE_ACCEPT);
        Check.same("nodeCount()", y.nodeCount(), 8);
        Check.tooBig(y, "bbbbbbbb");
        Check.accepts(y, "cdd", "A30-3^-1 c0-1^0 B11-3^0 C11-2^2 d1-2^3 C12-3^2 d2-3^5");
        Check.tooBig(y, "cdde");
    }

    private static void hugeTreesEnd() {
        AdaptiveLlStar x = Check.compiled("A=BBBBBB", "B=CCCCCC", "C=DDDDDD", "D=EEEEEE", "E=FFFFFF", "F=GGGGGG",
                "G=HHHHHH", "H=", "H=a");
        Check.tooBig(x, "");
        Check.tooBig(x, "aaaaaaaaaaaa");
        Check.rejects(x, "aaaaaaaaaaab", 11);
        AdaptiveLlStar y = Check.compiled("A=BBBBBB", "B=CCCCCC", "C=DDDDDD", "D=EEEEEE", "E=FFFFFF", "F=GGGGGG",
                "G=HHHHHH", "H=a");
        Check.rejects(y, "aaaaaaaaaaaa", 12);
        Check.rejects(y, "", 0);
    }

    private static void emptyInput() {
        Check.accepts(Check.compiled("A="), "", "A10-0^-1");
        Check.accepts(Check.compiled("A=a", "A=BC", "B=C", "C="), "", "A20-0^-1 B10-0^0 C10-0^1 C10-0^0");
        Check.rejects(Check.compiled("A=a"), "", 0);
        Check.rejects(Check.compiled("A=Ba", "B="), "", 0);
        Check.tooBig(Check.compiledWithin(1, 8, "A=BBBBBBBB", "B="), "");
    }

    private static void firstDerivationLooksAhead() {
        AdaptiveLlStar x = Check.compiled("A=Bb", "A=Bc", "B=aB", "B=");
        Check.accepts(x, "aac", "A20-3^-1 B10-2^0 a0-1^1 B11-2^1 a1-2^3 B22-2^3 c2-3^0");
        AdaptiveLlStar y = Check.compiled("A=Baa", "B=aB", "B=");
        Check.accepts(y, "aaa", "A10-3^-1 B10-1^0 a0-1^1 B21-1^1 a1-2^0 a2-3^0");
        Check.accepts(y, "aa", "A10-2^-1 B20-0^0 a0-1^0 a1-2^0");
        AdaptiveLlStar z = Check.compiled("A=BCd", "B=a", "B=ab", "C=bc", "C=c");
        Check.accepts(z, "abcd", "A10-4^-1 B1!0-1^0 a0-1^1 C11-3^0 b1-2^3 c2-3^3 d3-4^0");
    }

    private static void firstDerivationIsNotTheSmallest() {
        AdaptiveLlStar x = Check.compiledWithin(12, 8, "A=BBBBBBBB", "A=a", "B=", "B=a");
        Check.tooBig(x, "a");
        AdaptiveLlStar y = Check.compiledWithin(12, 8, "A=a", "A=BBBBBBBB", "B=", "B=a");
        Check.accepts(y, "a", "A1!0-1^-1 a0-1^0");
    }

    private static void parseKeepsGrammarAndInput() {
        AdaptiveLlStar x = Check.compiledWithin(3, 64, "A=aA", "A=");
        Check.feed(x, "aa");
        for (int turn = 0; turn < 3; turn++) {
            Check.same("parse()", x.parse(), AdaptiveLlStar.PARSE_ACCEPT);
            Check.same("result", Check.result(x), "2: A10-2^-1 a0-1^0 A11-2^0 a1-2^2 A22-2^2");
        }
        Check.same("the last token", x.token(1), true);
        Check.same("a token too many", x.token(1), false);
        Check.same("parse()", x.parse(), AdaptiveLlStar.PARSE_REJECT);
        Check.same("result", Check.result(x), "2: ");
        Check.same("addTerminal to the current one", x.addTerminal(1), true);
        Check.same("compile()", x.compile(), AdaptiveLlStar.COMPILE_OK);
        Check.same("parse()", x.parse(), AdaptiveLlStar.PARSE_ACCEPT);
        Check.same("result", Check.result(x), "3: A10-3^-1 a0-1^0 A11-3^0 a1-2^2 A22-3^2 b2-3^4");
    }

    private static void resultDoesNotDependOnThePast() {
        AdaptiveLlStar x = Check.compiled("A=BB", "B=aB", "B=b", "B=");
        String due = "A10-2^-1 B1!0-2^0 a0-1^1 B2!1-2^1 b1-2^3 B32-2^0";
        Check.accepts(x, "ab", due);
        Check.rejects(x, "aaaaaaaaaaac", 11);
        Check.accepts(x, "ab", due);
        Check.same("parse()", Check.parse(x, "aaaaaaaaaaab"), AdaptiveLlStar.PARSE_ACCEPT);
        Check.accepts(x, "ab", due);
        x.clearGrammar();
        Check.add(x, "A=" + "B".repeat(16), "B=CC", "C=DD", "D=", "D=a");
        Check.same("compile()", x.compile(), AdaptiveLlStar.COMPILE_OK);
        Check.tooBig(x, "aaaaaaaaaaaa");
        x.clearGrammar();
        Check.add(x, "A=BB", "B=aB", "B=b", "B=");
        Check.same("compile()", x.compile(), AdaptiveLlStar.COMPILE_OK);
        Check.same("compile() again", x.compile(), AdaptiveLlStar.COMPILE_OK);
        Check.accepts(x, "ab", due);
    }
}
