/** Promise 9, sentence by sentence: parse. */
public final class Promise09Test {
    private static final int ACCEPT = AdaptiveLlStar.PARSE_ACCEPT;
    private static final int REJECT = AdaptiveLlStar.PARSE_REJECT;
    private static final int TOO_BIG = AdaptiveLlStar.PARSE_TOO_BIG;
    private static final int NOT_COMPILED = AdaptiveLlStar.PARSE_NOT_COMPILED;
    private static final String[] UNCOMPILED = {"fresh", "smallest", "begun", "faulty", "edited", "cleared",
        "full and edited"};
    private static final String[] COMPILED = {"compiled", "accepted", "rejected", "too big", "full",
        "alternatives full", "symbols full", "input full"};

    public static void main(String[] args) {
        sentence("never changes the alternatives, the current alternative, the compiled flag or the input",
                Promise09Test::keepsGrammarAndInput);
        sentence("If the compiled flag is clear it answers `PARSE_NOT_COMPILED` and nothing changes",
                Promise09Test::notCompiled);
        sentence("the previous result stays readable", Promise09Test::previousResult);
        sentence("exactly one of the following happens", Promise09Test::oneAnswer);
        sentence("the result has `nodeCount` 0 and no marks", Promise09Test::rejectLeavesNoTree);
        sentence("the error position becomes the viable prefix length", Promise09Test::rejectAtViablePrefix);
        sentence("which lies in 0..n and may equal n when the whole input begins some sentence without being one",
                Promise09Test::viablePrefixEdges);
        sentence("answers `PARSE_REJECT`", Promise09Test::rejects);
        sentence("The first derivation has more than nodeLimit nodes", Promise09Test::moreThanNodeLimit);
        sentence("(rule and token nodes together)", Promise09Test::bothKindsCount);
        sentence("`nodeCount` 0, no marks, error position n; answers `PARSE_TOO_BIG`", Promise09Test::tooBig);
        sentence("the result tree becomes the first derivation, numbered in preorder as defined above",
                Promise09Test::firstDerivation);
        sentence("each rule node marked ambiguous or not", Promise09Test::marks);
        sentence("`nodeCount` becomes its node count; error position n; answers `PARSE_ACCEPT`",
                Promise09Test::accepts);
        sentence("The empty input (n = 0) is handled the same way: a derivation exists exactly when rule 0 is nullable",
                Promise09Test::emptyInput);
        sentence("if the first derivation has more than nodeLimit nodes, `PARSE_TOO_BIG`",
                Promise09Test::emptyInputTooBig);
        sentence("otherwise it is `PARSE_REJECT` with error position 0", Promise09Test::emptyInputRejected);
        sentence("whatever parses, inputs, grammar edits or recompilations came before",
                Promise09Test::pastIsForgotten);
        sentence("The answer and the whole result depend only on the constructor arguments, the current alternatives",
                Promise09Test::orderOfAlternatives);
        sentence("`errorPosition()`, `nodeCount()` and every node getter at every int argument answer the same",
                Promise09Test::everyArgument);
        sentence("the nodes with `nodeAlt` 0 (the token nodes), taken in increasing node number, have `nodeSymbol`"
                + " equal to the input tokens in order and `nodeStart` equal to 0, 1, .., n-1",
                Promise09Test::tokenNodes);
        sentence("node 0 has `nodeSymbol` 0, `nodeStart` 0 and `nodeEnd` n; and `errorPosition()` is n",
                Promise09Test::rootNode);
        Check.end();
    }

    private static void sentence(String words, Runnable test) {
        Check.sentence("Promise 9", words, test);
    }

    private static void keepsGrammarAndInput() {
        for (String state : COMPILED) {
            AdaptiveLlStar x = States.make(state);
            int code = x.parse();
            Check.same("parse() is not refused", code == NOT_COMPILED, false);
            Check.same("parse() again on the " + state + " one", x.parse(), code);
            States.sameGrammarAndInput("parse() on the " + state + " one", () -> {
                AdaptiveLlStar one = States.make(state);
                one.parse();
                return one;
            }, () -> States.make(state));
        }
        keepsGrammarAndInput(ACCEPT, "A=a");
        keepsGrammarAndInput(REJECT, "A=d");
        keepsGrammarAndInput(TOO_BIG, "A=aBBBBBBB");
    }

    /** The first alternative decides the answer for the input a; all goes on from there. */
    private static void keepsGrammarAndInput(int code, String first) {
        AdaptiveLlStar x = Check.compiledWithin(12, 8, "B=", first, "A=ab", "A=ac");
        Check.feed(x, "a");
        Check.same("parse() with " + first, x.parse(), code);
        Check.same("parse() again", x.parse(), code);
        Check.same("token(1)", x.token(1), true);
        Check.same("parse() with a token more", x.parse(), ACCEPT);
        Check.same("result", Check.result(x), "2: A20-2^-1 a0-1^0 b1-2^0");
        Check.same("parse() with " + first, Check.parse(x, "a"), code);
        Check.same("addTerminal(3) to the current one", x.addTerminal(3), true);
        Check.same("compile()", x.compile(), AdaptiveLlStar.COMPILE_OK);
        Check.accepts(x, "acd", "A30-3^-1 a0-1^0 c1-2^0 d2-3^0");
    }

    private static void notCompiled() {
        States.unchangedIn(UNCOMPILED, "a refused parse()", x -> {
            for (int turn = 0; turn < 3; turn++) {
                Check.same("parse()", x.parse(), NOT_COMPILED);
            }
        });
        AdaptiveLlStar x = Check.grammar("A=a");
        Check.feed(x, "a");
        Check.same("parse()", x.parse(), NOT_COMPILED);
        Check.same("compile()", x.compile(), AdaptiveLlStar.COMPILE_OK);
        Check.same("parse()", x.parse(), ACCEPT);
    }

    private static void previousResult() {
        AdaptiveLlStar x = Check.compiledWithin(12, 8, "A=aA", "A=aA", "A=");
        Check.accepts(x, "a", "A1!0-1^-1 a0-1^0 A31-1^0");
        keepsResult(x, "1: A1!0-1^-1 a0-1^0 A31-1^0");
        Check.rejects(x, "aab", 2);
        keepsResult(x, "2: ");
        Check.tooBig(x, "aaaaa");
        keepsResult(x, "5: ");
    }

    private static void keepsResult(AdaptiveLlStar x, String result) {
        x.beginAlt(7);
        x.clearInput();
        Check.same("parse()", x.parse(), NOT_COMPILED);
        Check.same("result", Check.result(x), result);
        x.token(3);
        Check.same("parse()", x.parse(), NOT_COMPILED);
        Check.same("result", Check.result(x), result);
        Check.nothingOutOfRange(x);
        Check.same("compile()", x.compile(), AdaptiveLlStar.COMPILE_OK);
    }

    // The same grammar comes to each answer, and each leaves the result of that answer alone.
    private static void oneAnswer() {
        AdaptiveLlStar x = Check.compiledWithin(12, 8, "A=aA", "A=b");
        for (int turn = 0; turn < 2; turn++) {
            Check.accepts(x, "ab", "A10-2^-1 a0-1^0 A21-2^0 b1-2^2");
            Check.rejects(x, "aaaa", 4);
            Check.tooBig(x, "aaaab");
            Check.rejects(x, "ba", 1);
            Check.accepts(x, "b", "A20-1^-1 b0-1^0");
            Check.tooBig(x, "aaaaaaaaaaab");
        }
    }

    private static void rejectLeavesNoTree() {
        AdaptiveLlStar x = Check.compiled("A=aA", "A=aA", "A=");
        for (int length = 0; length <= 11; length++) {
            Check.same("parse()", Check.parse(x, "a".repeat(11)), ACCEPT);
            Check.same("nodeAmbiguous(0)", x.nodeAmbiguous(0), true);
            Check.same("parse()", Check.parse(x, "a".repeat(length) + "b"), REJECT);
            Check.same("nodeCount()", x.nodeCount(), 0);
            Check.nothingOutOfRange(x);
        }
    }

    private static void rejectAtViablePrefix() {
        AdaptiveLlStar x = Check.compiled("A=abc", "A=aBd", "B=bb", "B=bcdB", "B=e");
        Check.rejects(x, "b", 0);
        Check.rejects(x, "ac", 1);
        Check.rejects(x, "abd", 2);
        Check.rejects(x, "abbb", 3);
        Check.rejects(x, "abcda", 4);
        Check.rejects(x, "abcdee", 5);
        Check.rejects(x, "abcdedd", 6);
        Check.rejects(x, "abcdbcdbcdeb", 11);
        AdaptiveLlStar y = Check.compiled("A=BcB", "B=aBb", "B=");
        Check.rejects(y, "abcb", 3);
        Check.rejects(y, "abb", 2);
        Check.rejects(y, "aabbcaac", 7);
        Check.rejects(y, "cc", 1);
    }

    private static void viablePrefixEdges() {
        AdaptiveLlStar x = Check.compiled("A=bA", "A=ab");
        for (int length = 0; length <= 11; length++) {
            String read = "b".repeat(length);
            Check.rejects(x, read, length);
            Check.rejects(x, read + "c", length);
            Check.rejects(x, read + "a", length + 1);
        }
        Check.rejects(x, "bbbbbbbbbbbb", 12);
        Check.rejects(x, "cccccccccccc", 0);
        // A sentence that could never be fed begins with the input all the same.
        AdaptiveLlStar longer = Check.compiledWithin(1, 8, "A=" + "a".repeat(40));
        Check.rejects(longer, "a", 1);
        Check.rejects(longer, "b", 0);
        AdaptiveLlStar longest = Check.compiled("A=" + "a".repeat(40));
        Check.rejects(longest, "aaaaaaaaaaaa", 12);
        Check.rejects(longest, "aaaaaaaaaaab", 11);
    }

    private static void rejects() {
        AdaptiveLlStar x = Check.compiledWithin(12, 8, "A=ab", "A=aBbbbbbb", "B=b");
        Check.rejects(x, "", 0);
        Check.rejects(x, "a", 1);
        Check.rejects(x, "aba", 2);
        Check.rejects(x, "abb", 3);
        // Trees that could not be kept are no reason to answer that they are too big.
        Check.rejects(x, "abbbbbb", 7);
        Check.tooBig(x, "abbbbbbb");
        Check.rejects(x, "abbbbbbbb", 8);
    }

    private static void moreThanNodeLimit() {
        for (int limit = 8; limit <= 64; limit++) {
            AdaptiveLlStar x = new AdaptiveLlStar(12, limit);
            for (int nodes = limit - 2; nodes <= limit + 1 && nodes <= 65; nodes++) {
                Check.compileTreeOf(x, nodes);
                int due = nodes > limit ? TOO_BIG : ACCEPT;
                Check.same("parse() of " + nodes + " nodes within " + limit, x.parse(), due);
                Check.same("nodeCount()", x.nodeCount(), nodes > limit ? 0 : nodes);
            }
        }
        // It is the first derivation that counts, not the least one, and no other derivation helps.
        AdaptiveLlStar y = Check.compiledWithin(12, 8, "A=BBBBBBBB", "A=a", "B=", "B=a");
        Check.tooBig(y, "a");
        AdaptiveLlStar z = Check.compiledWithin(12, 8, "A=a", "A=BBBBBBBB", "B=", "B=a");
        Check.accepts(z, "a", "A1!0-1^-1 a0-1^0");
    }

    private static void bothKindsCount() {
        for (int limit = 8; limit <= 12; limit++) {
            AdaptiveLlStar x = Check.compiledWithin(12, limit, "A=" + "a".repeat(limit - 1), "A=" + "a".repeat(limit));
            Check.same("parse() of " + (limit - 1) + " tokens", Check.parse(x, "a".repeat(limit - 1)), ACCEPT);
            Check.same("nodeCount()", x.nodeCount(), limit);
            Check.tooBig(x, "a".repeat(limit));
        }
        AdaptiveLlStar x = Check.compiledWithin(12, 9, "A=aA", "A=");
        Check.same("parse() of nine nodes", Check.parse(x, "aaaa"), ACCEPT);
        Check.same("nodeCount()", x.nodeCount(), 9);
        Check.tooBig(x, "aaaaa");
    }

    private static void tooBig() {
        AdaptiveLlStar x = Check.compiledWithin(12, 8, "A=aA", "A=aA", "A=");
        for (int length = 4; length <= 12; length++) {
            Check.same("parse()", Check.parse(x, "aaa"), ACCEPT);
            Check.same("nodeAmbiguous(0)", x.nodeAmbiguous(0), true);
            Check.same("parse()", Check.parse(x, "a".repeat(length)), TOO_BIG);
            Check.same("nodeCount()", x.nodeCount(), 0);
            Check.same("errorPosition()", x.errorPosition(), length);
            Check.nothingOutOfRange(x);
        }
        AdaptiveLlStar y = Check.compiled("A=BBBBBB", "B=CCCCCC", "C=DDDDDD", "D=EEEEEE", "E=FFFFFF", "F=GGGGGG",
                "G=HHHHHH", "H=", "H=a");
        Check.tooBig(y, "aaaaaaaaaaaa");
        Check.tooBig(y, "");
    }

    private static void firstDerivation() {
        AdaptiveLlStar x = Check.compiled("A=BC", "B=a", "B=ab", "B=", "C=bc", "C=c", "C=abc");
        Check.accepts(x, "abc", "A10-3^-1 B1!0-1^0 a0-1^1 C11-3^0 b1-2^3 c2-3^3");
        Check.accepts(x, "bc", "A10-2^-1 B30-0^0 C10-2^0 b0-1^2 c1-2^2");
        Check.accepts(x, "ac", "A10-2^-1 B10-1^0 a0-1^1 C21-2^0 c1-2^3");
        AdaptiveLlStar y = Check.compiled("A=Bb", "A=Bc", "B=aB", "B=");
        Check.accepts(y, "aac", "A20-3^-1 B10-2^0 a0-1^1 B11-2^1 a1-2^3 B22-2^3 c2-3^0");
    }

    private static void marks() {
        AdaptiveLlStar x = Check.compiled("A=BC", "B=a", "B=a", "B=b", "C=c", "C=d", "C=d");
        Check.accepts(x, "ac", "A10-2^-1 B1!0-1^0 a0-1^1 C11-2^0 c1-2^3");
        Check.accepts(x, "bd", "A10-2^-1 B30-1^0 b0-1^1 C2!1-2^0 d1-2^3");
        Check.accepts(x, "bc", "A10-2^-1 B30-1^0 b0-1^1 C11-2^0 c1-2^3");
        Check.accepts(x, "ad", "A10-2^-1 B1!0-1^0 a0-1^1 C2!1-2^0 d1-2^3");
    }

    private static void accepts() {
        AdaptiveLlStar x = Check.compiled("A=aA", "A=");
        for (int length = 12; length >= 0; length--) {
            Check.same("parse() of " + length, Check.parse(x, "a".repeat(length)), ACCEPT);
            Check.same("nodeCount()", x.nodeCount(), 2 * length + 1);
            Check.same("errorPosition()", x.errorPosition(), length);
            Check.rejects(x, "b", 0);
        }
    }

    private static void emptyInput() {
        Check.accepts(Check.compiled("A="), "", "A10-0^-1");
        Check.accepts(Check.compiled("A=a", "A=BC", "B=C", "C=c", "C="), "", "A20-0^-1 B10-0^0 C20-0^1 C20-0^0");
        Check.accepts(Check.compiled("A=BCDEFGH", "B=C", "C=D", "D=E", "E=F", "F=G", "G=H", "H="), "",
                "A10-0^-1 B10-0^0 C10-0^1 D10-0^2 E10-0^3 F10-0^4 G10-0^5 H10-0^6 C10-0^0 D10-0^8 E10-0^9 F10-0^10"
                + " G10-0^11 H10-0^12 D10-0^0 E10-0^14 F10-0^15 G10-0^16 H10-0^17 E10-0^0 F10-0^19 G10-0^20 H10-0^21"
                + " F10-0^0 G10-0^23 H10-0^24 G10-0^0 H10-0^26 H10-0^0");
        Check.accepts(Check.compiled("A=B", "A=", "B="), "", "A1!0-0^-1 B10-0^0");
        AdaptiveLlStar x = Check.compiled("A=aA", "A=");
        Check.accepts(x, "a", "A10-1^-1 a0-1^0 A21-1^0");
        Check.accepts(x, "", "A20-0^-1");
    }

    private static void emptyInputTooBig() {
        AdaptiveLlStar x = Check.compiledWithin(1, 8, "A=BBBBBBB", "A=a", "B=");
        Check.same("parse() of eight nodes", x.parse(), ACCEPT);
        Check.same("nodeCount()", x.nodeCount(), 8);
        Check.tooBig(Check.compiledWithin(1, 8, "A=BBBBBBBB", "A=a", "B="), "");
        Check.tooBig(Check.compiled("A=BBBBBBBB", "B=CCCCCCCC", "C="), "");
        Check.tooBig(Check.compiledWithin(1, 8, "A=BBBBBBBB", "A=", "B="), "");
    }

    private static void emptyInputRejected() {
        Check.rejects(Check.compiled("A=a"), "", 0);
        Check.rejects(Check.compiled("A=Ba", "A=aB", "B="), "", 0);
        Check.rejects(Check.compiled("A=BC", "B=", "C=c"), "", 0);
        AdaptiveLlStar x = Check.compiled("A=ab");
        Check.accepts(x, "ab", "A10-2^-1 a0-1^0 b1-2^0");
        Check.rejects(x, "", 0);
    }

    private static void pastIsForgotten() {
        for (String state : States.names()) {
            AdaptiveLlStar x = States.make(state);
            AdaptiveLlStar due = sameLimits(state);
            for (AdaptiveLlStar one : new AdaptiveLlStar[] {x, due}) {
                one.clearGrammar();
                one.clearInput();
                Check.add(one, "A=BB", "B=aB", "B=b", "B=");
                Check.same("compile()", one.compile(), AdaptiveLlStar.COMPILE_OK);
                one.token(0);
                one.token(1);
                one.token(0);
            }
            Check.same("compile() again", x.compile(), AdaptiveLlStar.COMPILE_OK);
            Check.same("parse() of the " + state + " one", x.parse(), due.parse());
            Check.same("result of the " + state + " one", States.getters(x), States.getters(due));
            for (int node : Check.FAR) {
                Check.nothingAt(x, node);
            }
        }
        AdaptiveLlStar x = Check.compiled("A=BB", "B=aB", "B=b", "B=");
        String due = "A10-2^-1 B1!0-2^0 a0-1^1 B2!1-2^1 b1-2^3 B32-2^0";
        String[] before = {"", "a", "aaaaaaaaaaaa", "bb", "abab", "bbb", "aaaaaaaaaaac", "c"};
        for (String tokens : before) {
            Check.parse(x, tokens);
            Check.accepts(x, "ab", due);
        }
    }

    private static AdaptiveLlStar sameLimits(String state) {
        switch (state) {
            case "smallest":
                return new AdaptiveLlStar(1, 8);
            case "rejected":
            case "input full":
                return new AdaptiveLlStar(3, 20);
            case "too big":
                return new AdaptiveLlStar(5, 8);
            default:
                return new AdaptiveLlStar(12, 64);
        }
    }

    // In what order the alternatives of different rules come makes no difference, within one rule it does.
    private static void orderOfAlternatives() {
        String due = "A10-1^-1 B1!0-1^0 a0-1^1 C21-1^0";
        Check.accepts(Check.compiled("A=BC", "B=a", "B=", "C=a", "C="), "a", due);
        Check.accepts(Check.compiled("C=a", "B=a", "C=", "B=", "A=BC"), "a", due);
        Check.accepts(Check.compiled("A=BC", "B=", "B=a", "C=a", "C="), "a", "A10-1^-1 B1!0-0^0 C10-1^0 a0-1^2");
    }

    private static void everyArgument() {
        AdaptiveLlStar used = Check.compiled("A=BA", "A=", "B=h", "B=h", "B=p");
        Check.same("parse()", Check.parse(used, "hphphphphphp"), ACCEPT);
        used.clearGrammar();
        Check.add(used, "A=aA", "A=b");
        Check.same("compile()", used.compile(), AdaptiveLlStar.COMPILE_OK);
        AdaptiveLlStar fresh = Check.compiled("A=aA", "A=b");
        for (String tokens : new String[] {"aaab", "ab", "b", "", "ac", "aa"}) {
            Check.same("parse() of " + tokens, Check.parse(used, tokens), Check.parse(fresh, tokens));
            Check.same("errorPosition()", used.errorPosition(), fresh.errorPosition());
            Check.same("nodeCount()", used.nodeCount(), fresh.nodeCount());
            for (int node : Check.outside(0, -1)) {
                sameNode(used, fresh, node);
            }
        }
    }

    private static void sameNode(AdaptiveLlStar x, AdaptiveLlStar due, int node) {
        Check.same("nodeSymbol(" + node + ")", x.nodeSymbol(node), due.nodeSymbol(node));
        Check.same("nodeAlt(" + node + ")", x.nodeAlt(node), due.nodeAlt(node));
        Check.same("nodeParent(" + node + ")", x.nodeParent(node), due.nodeParent(node));
        Check.same("nodeStart(" + node + ")", x.nodeStart(node), due.nodeStart(node));
        Check.same("nodeEnd(" + node + ")", x.nodeEnd(node), due.nodeEnd(node));
        Check.same("nodeAmbiguous(" + node + ")", x.nodeAmbiguous(node), due.nodeAmbiguous(node));
    }

    private static void tokenNodes() {
        AdaptiveLlStar x = Check.compiled("A=BA", "A=", "B=p", "B=aD", "B=CbC", "C=", "C=h", "D=i", "D=oD", "D=");
        String[] inputs = {"", "p", "a", "b", "ao", "hbh", "ppp", "aooi", "bbbbbb", "pabhaoipbhhb",
            "pppppppppppp"};
        for (String tokens : inputs) {
            Check.same("parse() of " + tokens, Check.parse(x, tokens), ACCEPT);
            StringBuilder read = new StringBuilder();
            for (int node = 0; node < x.nodeCount(); node++) {
                if (x.nodeAlt(node) == 0) {
                    Check.same("nodeStart(" + node + ")", x.nodeStart(node), read.length());
                    Check.same("nodeEnd(" + node + ")", x.nodeEnd(node), read.length() + 1);
                    read.append((char) ('a' + x.nodeSymbol(node)));
                }
            }
            Check.same("token nodes", read.toString(), tokens);
        }
    }

    private static void rootNode() {
        AdaptiveLlStar x = Check.compiled("H=h", "B=aB", "B=", "A=HB", "A=B");
        for (int length = 0; length <= 12; length++) {
            String tokens = (length % 2 == 1 ? "h" : "") + "a".repeat(length - length % 2);
            Check.same("parse() of " + tokens, Check.parse(x, tokens), ACCEPT);
            Check.same("nodeSymbol(0)", x.nodeSymbol(0), 0);
            Check.same("nodeStart(0)", x.nodeStart(0), 0);
            Check.same("nodeEnd(0)", x.nodeEnd(0), length);
            Check.same("errorPosition()", x.errorPosition(), length);
        }
    }
}
