/** The section "Terms" of the document, sentence by sentence, with the promises that lean on it. */
public final class TermsTest {
    private static final int OK = AdaptiveLlStar.COMPILE_OK;
    private static final int UNDEFINED = AdaptiveLlStar.COMPILE_UNDEFINED_RULE;
    private static final int UNPRODUCTIVE = AdaptiveLlStar.COMPILE_UNPRODUCTIVE;
    private static final int LEFT_RECURSIVE = AdaptiveLlStar.COMPILE_LEFT_RECURSIVE;

    public static void main(String[] args) {
        grammarTerms();
        treeTerms();
        stateTerms();
        Check.end();
    }

    private static void grammarTerms() {
        sentence("3", "An alternative belongs to one rule", TermsTest::oneRule);
        sentence("3 to 5", "is a sequence of 0 or more symbols, each a terminal or a rule", TermsTest::anyLength);
        sentence("3", "numbered 1, 2, 3, .. in the order of the `beginAlt` calls that created them since the last"
                + " `clearGrammar` (or construction)", TermsTest::numbers);
        sentence("6", "A rule is DEFINED when it has at least one alternative.", TermsTest::defined);
        sentence("6", "(always over the current alternatives)", TermsTest::overCurrentAlternatives);
        sentence("6", "one of its alternatives consists only of nullable rules (an empty alternative qualifies)",
                TermsTest::nullable);
        sentence("6", "Terminals are never nullable.", TermsTest::terminalsAreNotNullable);
        sentence("6", "one of its alternatives consists only of terminals and productive rules (an empty alternative"
                + " qualifies)", TermsTest::productive);
        sentence("6", "PRODUCTIVE: the least set of rules", TermsTest::productiveLeast);
        sentence("6", "with X1..X(m-1) all nullable rules (m = 1: nothing before it)", TermsTest::beginsWith);
        sentence("6", "rule R is left-recursive when R begins with R", TermsTest::leftRecursiveAtOnce);
        sentence("6", "or R begins with Q1, Q1 with Q2, .., Qj with R for some rules Q1..Qj",
                TermsTest::leftRecursiveThroughOthers);
        sentence("6", "This includes recursion hidden behind nullable prefixes.", TermsTest::leftRecursiveHidden);
    }

    private static void treeTerms() {
        sentence("7 and 9", "token i (0 <= i < n) is the i-th one fed (counting from 0)", TermsTest::orderOfTokens);
        sentence("9", "a token node standing for one input token of exactly that type", TermsTest::exactType);
        sentence("9", "for a rule Xm a tree for that rule", TermsTest::treeForThatRule);
        sentence("9", "with exactly k children in this order", TermsTest::children);
        sentence("15", "The first child starts at p; every later child starts where the one before it ends.",
                TermsTest::childrenTouch);
        sentence("15", "A token node starting at i covers [i, i+1) and stands for token i.", TermsTest::tokenNodes);
        sentence("15", "The rule node covers [p, end of its last child), or [p, p) when k = 0.", TermsTest::covers);
        sentence("9", "A DERIVATION is a tree for rule 0 at position 0 covering [0, n).", TermsTest::wholeInput);
        sentence("9", "The root is node 0, a node comes before its children, and the whole subtree of a child comes"
                + " before its next sibling.", TermsTest::preorder);
        sentence("9", "the derivation whose alt sequence is lexicographically least", TermsTest::leastSequence);
        sentence("9", "entries compared as ints", TermsTest::entriesAreInts);
        sentence("16", "two derivations exist whose alt sequences both equal D's in entries 1..m and differ from each"
                + " other in entry m+1", TermsTest::ambiguous);
        sentence("16", "at least two alternatives of v's rule can be taken at v and still complete a derivation",
                TermsTest::stillComplete);
        sentence("16", "all of D numbered before v being kept", TermsTest::keptBefore);
        sentence("9", "the greatest i (0 <= i <= n)", TermsTest::viablePrefix);
        sentence("9", "of some tree for rule 0 at position 0 over some token sequence", TermsTest::viableBeyondLimits);
    }

    private static void stateTerms() {
        sentence("2 to 5", "a current alternative (the one most recently begun, none after `clearGrammar`)",
                TermsTest::current);
        sentence("7", "the input (0..tokenLimit tokens)", TermsTest::inputSize);
        sentence("2 to 5", "Every call that changes the alternatives clears the compiled flag.",
                TermsTest::changesClearCompiled);
        sentence("9", "Only a parse that is not refused changes the result.", TermsTest::onlyParseChangesResult);
        sentence("3 to 9", "Refused calls change nothing.", TermsTest::refusedCalls);
        sentence("6 and 9", "rule 0 is the start rule", TermsTest::startRule);
    }

    private static void sentence(String promises, String words, Runnable test) {
        Check.sentence("Terms, for promise " + promises, words, test);
    }

    private static void compiles(int due, String... alts) {
        Check.same("compile() of " + String.join(" ", alts), Check.grammar(alts).compile(), due);
    }

    private static void oneRule() {
        for (char rule = 'B'; rule <= 'H'; rule++) {
            AdaptiveLlStar x = Check.compiled("A=a", rule + "=b", "A=c" + rule, rule + "=d");
            Check.accepts(x, "a", "A10-1^-1 a0-1^0");
            Check.accepts(x, "cb", "A20-2^-1 c0-1^0 " + rule + "11-2^0 b1-2^2");
            Check.accepts(x, "cd", "A20-2^-1 c0-1^0 " + rule + "21-2^0 d1-2^2");
            Check.rejects(x, "b", 0);
            Check.rejects(x, "ca", 1);
        }
    }

    // Each grammar would be judged otherwise if one of those before it still counted.
    private static void overCurrentAlternatives() {
        AdaptiveLlStar x = new AdaptiveLlStar(12, 64);
        recompiles(x, OK, "A=B", "B=", "C=");
        recompiles(x, UNDEFINED, "A=B");
        recompiles(x, UNPRODUCTIVE, "A=B", "B=bB");
        recompiles(x, OK, "A=BAb", "A=a", "B=b");
        recompiles(x, LEFT_RECURSIVE, "A=BAb", "A=a", "B=");
        recompiles(x, OK, "A=BAb", "A=a", "B=b");
        recompiles(x, OK, "A=a");
        Check.same("beginAlt(0)", x.beginAlt(0), true);
        Check.same("addRule(1)", x.addRule(1), true);
        Check.same("compile() after addRule(1)", x.compile(), UNDEFINED);
        Check.same("beginAlt(1)", x.beginAlt(1), true);
        Check.same("addRule(1)", x.addRule(1), true);
        Check.same("compile() with B=B", x.compile(), UNPRODUCTIVE);
        Check.same("beginAlt(1)", x.beginAlt(1), true);
        Check.same("compile() with B=B and B=", x.compile(), LEFT_RECURSIVE);
    }

    private static void recompiles(AdaptiveLlStar x, int due, String... alts) {
        x.clearGrammar();
        Check.add(x, alts);
        Check.same("compile() of " + String.join(" ", alts) + " after others", x.compile(), due);
    }

    private static void anyLength() {
        Check.accepts(Check.compiled("A="), "", "A10-0^-1");
        Check.accepts(Check.compiled("A=a"), "a", "A10-1^-1 a0-1^0");
        Check.accepts(Check.compiled("A=aBaB", "B="), "aa", "A10-2^-1 a0-1^0 B11-1^0 a1-2^0 B12-2^0");
        AdaptiveLlStar longest = Check.compiled("A=" + "B".repeat(24) + "a" + "B".repeat(23), "B=");
        Check.same("parse() of 48 symbols", Check.parse(longest, "a"), AdaptiveLlStar.PARSE_ACCEPT);
        Check.same("nodeCount()", longest.nodeCount(), 49);
        Check.same("nodeAlt(25)", longest.nodeAlt(25), 0);
        Check.same("nodeParent(48)", longest.nodeParent(48), 0);
        Check.same("nodeStart(48)", longest.nodeStart(48), 1);
    }

    private static void numbers() {
        AdaptiveLlStar x = new AdaptiveLlStar(12, 64);
        for (int turn = 0; turn < 3; turn++) {
            Check.add(x, "B=a", "A=B", "B=b", "A=C", "C=c", "B=d", "A=e");
            x.beginAlt(8);
            Check.add(x, "A=f", "C=");
            Check.same("compile()", x.compile(), OK);
            Check.accepts(x, "a", "A10-1^-1 B10-1^0 a0-1^1");
            Check.accepts(x, "d", "A10-1^-1 B30-1^0 d0-1^1");
            Check.accepts(x, "c", "A20-1^-1 C10-1^0 c0-1^1");
            Check.accepts(x, "", "A20-0^-1 C20-0^0");
            Check.accepts(x, "f", "A40-1^-1 f0-1^0");
            x.clearGrammar();
        }
    }

    private static void defined() {
        compiles(UNDEFINED, "A=B");
        compiles(OK, "A=B", "B=");
        compiles(OK, "B=", "A=B");
        compiles(OK, "A=B", "B=a", "B=b");
    }

    // A rule that is nullable lets the one behind it come first.
    private static void nullable() {
        compiles(LEFT_RECURSIVE, "A=BA", "A=a", "B=");
        compiles(LEFT_RECURSIVE, "A=BA", "A=a", "B=b", "B=");
        compiles(LEFT_RECURSIVE, "A=BA", "A=a", "B=CC", "C=c", "C=DDD", "D=");
        compiles(LEFT_RECURSIVE, "A=BA", "A=a", "B=C", "C=D", "D=E", "E=F", "F=G", "G=H", "H=");
        compiles(LEFT_RECURSIVE, "H=", "G=H", "F=G", "E=F", "D=E", "C=D", "B=C", "A=BA", "A=a");
        compiles(OK, "A=BA", "A=a", "B=CC", "C=c", "C=DDDb", "D=");
        compiles(OK, "A=BA", "A=a", "B=CD", "C=", "D=d");
    }

    private static void terminalsAreNotNullable() {
        for (char terminal = 'a'; terminal <= 'p'; terminal++) {
            compiles(OK, "A=" + terminal + "A", "A=");
            compiles(OK, "A=BA", "A=", "B=" + terminal);
            compiles(OK, "A=BA", "A=", "B=C" + terminal, "C=");
        }
    }

    private static void productive() {
        compiles(OK, "A=B", "B=");
        compiles(OK, "A=B", "B=C", "C=aD", "D=E", "E=F", "F=bG", "G=H", "H=");
        compiles(OK, "H=", "G=H", "F=bG", "E=F", "D=E", "C=aD", "B=C", "A=B");
        compiles(OK, "A=aAbA", "A=");
        compiles(UNPRODUCTIVE, "A=aA");
        compiles(UNPRODUCTIVE, "A=", "A=bB", "B=aB");
        compiles(UNPRODUCTIVE, "A=", "B=bCa", "C=", "C=c", "D=CD");
        compiles(UNPRODUCTIVE, "A=", "B=bC", "C=cB", "C=bBB");
    }

    // Rules that need each other in a ring would support each other in a greater set.
    private static void productiveLeast() {
        String rules = "ABCDEFGH";
        for (int length = 1; length <= 8; length++) {
            String[] ring = new String[length + 1];
            for (int i = 0; i < length; i++) {
                ring[i] = rules.charAt(i) + "=a" + rules.charAt((i + 1) % length) + "b";
            }
            ring[length] = "A=bAA";
            compiles(UNPRODUCTIVE, ring);
            ring[length] = rules.charAt(length - 1) + "=";
            compiles(OK, ring);
        }
    }

    private static void beginsWith() {
        compiles(LEFT_RECURSIVE, "A=Ab", "A=");
        compiles(LEFT_RECURSIVE, "A=BAb", "A=", "B=");
        compiles(LEFT_RECURSIVE, "A=BBBBBBBBBBA", "A=", "B=");
        compiles(OK, "A=aAb", "A=");
        compiles(OK, "A=BaAb", "A=", "B=");
        compiles(OK, "A=BBBBCBA", "A=", "B=", "C=c");
        compiles(OK, "A=CBA", "A=", "B=", "C=c");
    }

    private static void leftRecursiveAtOnce() {
        for (char rule = 'B'; rule <= 'H'; rule++) {
            compiles(LEFT_RECURSIVE, "A=", rule + "=", rule + "=" + rule + "a");
            compiles(LEFT_RECURSIVE, "A=", rule + "=" + rule, rule + "=a");
            compiles(OK, "A=", rule + "=", rule + "=a" + rule);
        }
        compiles(LEFT_RECURSIVE, "A=Aa", "A=a");
    }

    private static void leftRecursiveThroughOthers() {
        String rules = "ABCDEFGH";
        for (int length = 2; length <= 8; length++) {
            String[] alts = new String[length + 1];
            String[] backwards = new String[length + 1];
            for (int i = 0; i < length; i++) {
                char next = rules.charAt((i + 1) % length);
                alts[i] = rules.charAt(i) + "=" + next + "a";
                backwards[length - 1 - i] = alts[i];
            }
            alts[length] = "A=a";
            backwards[length] = "A=a";
            compiles(LEFT_RECURSIVE, alts);
            compiles(LEFT_RECURSIVE, backwards);
            alts[length - 1] = alts[length - 1].replace("=A", "=aA");
            compiles(OK, alts);
        }
        // A ring that the start rule does not belong to, or never comes to.
        compiles(LEFT_RECURSIVE, "A=B", "B=C", "C=B", "C=c");
        compiles(LEFT_RECURSIVE, "A=a", "G=H", "H=G", "H=h");
    }

    private static void leftRecursiveHidden() {
        compiles(LEFT_RECURSIVE, "A=BCA", "A=a", "B=", "C=B");
        compiles(LEFT_RECURSIVE, "A=BCa", "A=a", "B=b", "B=", "C=BAc", "C=c");
        compiles(LEFT_RECURSIVE, "A=a", "G=FHg", "G=", "F=f", "F=", "H=FG", "H=h");
        compiles(OK, "A=BCa", "A=a", "B=b", "B=", "C=BcA", "C=c");
    }

    private static void orderOfTokens() {
        AdaptiveLlStar x = Check.compiled("A=BA", "A=B", "B=a", "B=b", "B=p");
        for (String tokens : new String[] {"a", "ab", "ba", "abp", "pba", "aabbppabpabp"}) {
            Check.same("parse() of " + tokens, Check.parse(x, tokens), AdaptiveLlStar.PARSE_ACCEPT);
            int fed = 0;
            for (int node = 0; node < x.nodeCount(); node++) {
                if (x.nodeAlt(node) == 0) {
                    Check.same("nodeStart(" + node + ") in " + tokens, x.nodeStart(node), fed);
                    Check.same("nodeSymbol(" + node + ") in " + tokens, x.nodeSymbol(node), tokens.charAt(fed) - 'a');
                    fed++;
                }
            }
            Check.same("token nodes in " + tokens, fed, tokens.length());
        }
    }

    private static void treeForThatRule() {
        for (char rule = 'B'; rule <= 'H'; rule++) {
            char other = rule == 'B' ? 'C' : 'B';
            AdaptiveLlStar x = Check.compiled("A=" + rule + other, other + "=b", rule + "=a", other + "=");
            Check.accepts(x, "ab", "A10-2^-1 " + rule + "10-1^0 a0-1^1 " + other + "11-2^0 b1-2^3");
            Check.accepts(x, "a", "A10-1^-1 " + rule + "10-1^0 a0-1^1 " + other + "21-1^0");
            Check.rejects(x, "ba", 0);
            Check.rejects(x, "aa", 1);
        }
        // The start rule below itself is a tree like any other.
        AdaptiveLlStar y = Check.compiled("A=aA", "A=B", "B=bAb", "B=");
        Check.accepts(y, "abab", "A10-4^-1 a0-1^0 A21-4^0 B11-4^2 b1-2^3 A12-3^3 a2-3^5 A23-3^5 B23-3^7 b3-4^3");
    }

    private static void exactType() {
        for (int t = 0; t < 16; t++) {
            char terminal = (char) ('a' + t);
            AdaptiveLlStar x = Check.compiled("A=" + terminal);
            for (int fed = 0; fed < 16; fed++) {
                String tokens = String.valueOf((char) ('a' + fed));
                if (fed == t) {
                    Check.accepts(x, tokens, "A10-1^-1 " + terminal + "0-1^0");
                } else {
                    Check.rejects(x, tokens, 0);
                }
            }
        }
        // A terminal is not the rule of the same number.
        AdaptiveLlStar y = Check.compiled("A=bB", "B=h", "H=b");
        Check.accepts(y, "bh", "A10-2^-1 b0-1^0 B11-2^0 h1-2^2");
        Check.rejects(y, "hh", 0);
        Check.rejects(y, "bb", 1);
    }

    private static void children() {
        AdaptiveLlStar x = Check.compiled("A=aBbCB", "B=b", "B=", "C=ca");
        Check.accepts(x, "abbcab", "A10-6^-1 a0-1^0 B11-2^0 b1-2^2 b2-3^0 C13-5^0 c3-4^5 a4-5^5 B15-6^0 b5-6^8");
        Check.accepts(x, "abca", "A10-4^-1 a0-1^0 B21-1^0 b1-2^0 C12-4^0 c2-3^4 a3-4^4 B24-4^0");
        Check.rejects(x, "abab", 2);
    }

    private static void childrenTouch() {
        AdaptiveLlStar x = Check.compiled("A=BCaB", "B=bb", "B=", "C=BcB");
        String[] inputs = {"ca", "bbca", "cbba", "bbbbcbbabb", "cabb"};
        for (String tokens : inputs) {
            Check.same("parse() of " + tokens, Check.parse(x, tokens), AdaptiveLlStar.PARSE_ACCEPT);
            for (int parent = 0; parent < x.nodeCount(); parent++) {
                int place = x.nodeStart(parent);
                for (int node = parent + 1; node < x.nodeCount(); node++) {
                    if (x.nodeParent(node) == parent) {
                        Check.same("nodeStart(" + node + ") in " + tokens, x.nodeStart(node), place);
                        place = x.nodeEnd(node);
                    }
                }
            }
        }
    }

    private static void tokenNodes() {
        AdaptiveLlStar x = Check.compiled("A=abBda", "B=cB", "B=");
        Check.accepts(x, "abccda", "A10-6^-1 a0-1^0 b1-2^0 B12-4^0 c2-3^3 B13-4^3 c3-4^5 B24-4^5 d4-5^0 a5-6^0");
        AdaptiveLlStar longest = Check.compiled("A=abcdefghijkl");
        Check.accepts(longest, "abcdefghijkl", "A10-12^-1 a0-1^0 b1-2^0 c2-3^0 d3-4^0 e4-5^0 f5-6^0 g6-7^0 h7-8^0"
                + " i8-9^0 j9-10^0 k10-11^0 l11-12^0");
    }

    private static void covers() {
        AdaptiveLlStar x = Check.compiled("A=BaC", "B=", "C=bD", "C=B", "D=c", "D=");
        Check.accepts(x, "abc", "A10-3^-1 B10-0^0 a0-1^0 C11-3^0 b1-2^3 D12-3^3 c2-3^5");
        Check.accepts(x, "ab", "A10-2^-1 B10-0^0 a0-1^0 C11-2^0 b1-2^3 D22-2^3");
        Check.accepts(x, "a", "A10-1^-1 B10-0^0 a0-1^0 C21-1^0 B11-1^3");
    }

    private static void wholeInput() {
        AdaptiveLlStar x = Check.compiled("A=a", "A=ab", "B=abc");
        Check.accepts(x, "a", "A10-1^-1 a0-1^0");
        Check.accepts(x, "ab", "A20-2^-1 a0-1^0 b1-2^0");
        Check.rejects(x, "aa", 1);
        Check.rejects(x, "aba", 2);
        // A tree for another rule, or one that starts later, is no derivation.
        Check.rejects(x, "abc", 2);
        Check.rejects(x, "ba", 0);
        Check.rejects(Check.compiled("A="), "a", 0);
        Check.accepts(Check.compiled("A=aA", "A="), "aa", "A10-2^-1 a0-1^0 A11-2^0 a1-2^2 A22-2^2");
    }

    private static void preorder() {
        AdaptiveLlStar x = Check.compiled("A=BcB", "B=CC", "C=a", "C=bD", "D=d");
        Check.accepts(x, "abdcbda", "A10-7^-1 B10-3^0 C10-1^1 a0-1^2 C21-3^1 b1-2^4 D12-3^4 d2-3^6 c3-4^0"
                + " B14-7^0 C24-6^9 b4-5^10 D15-6^10 d5-6^12 C16-7^9 a6-7^14");
    }

    private static void leastSequence() {
        // An earlier entry outweighs all later ones, and length does not count.
        AdaptiveLlStar x = Check.compiled("A=BC", "A=b", "B=D", "B=", "C=", "C=b", "D=E", "E=F", "F=", "F=b");
        Check.accepts(x, "b", "A1!0-1^-1 B1!0-0^0 D10-0^1 E10-0^2 F1!0-0^3 C20-1^0 b0-1^5");
        AdaptiveLlStar y = Check.compiled("A=BC", "B=", "B=a", "C=", "C=a");
        Check.accepts(y, "a", "A10-1^-1 B1!0-0^0 C20-1^0 a0-1^2");
        AdaptiveLlStar z = Check.compiled("A=BC", "B=a", "B=", "C=a", "C=");
        Check.accepts(z, "a", "A10-1^-1 B1!0-1^0 a0-1^1 C21-1^0");
        // The sequence is compared in the order of the nodes, not from the root down level by level.
        AdaptiveLlStar w = Check.compiled("A=BC", "B=D", "D=a", "D=ab", "C=c", "C=bc");
        Check.accepts(w, "abc", "A10-3^-1 B10-1^0 D1!0-1^1 a0-1^2 C21-3^0 b1-2^4 c2-3^4");
    }

    // As words, "10" would come before "2".
    private static void entriesAreInts() {
        String[] alts = new String[16];
        for (int i = 0; i < 16; i++) {
            alts[i] = i == 1 || i == 9 || i == 10 ? "A=a" : "A=b";
        }
        AdaptiveLlStar x = Check.compiled(alts);
        Check.accepts(x, "a", "A2!0-1^-1 a0-1^0");
        alts[1] = "A=b";
        AdaptiveLlStar y = Check.compiled(alts);
        Check.accepts(y, "a", "A10!0-1^-1 a0-1^0");
        alts[9] = "A=c";
        AdaptiveLlStar z = Check.compiled(alts);
        Check.accepts(z, "a", "A110-1^-1 a0-1^0");
    }

    private static void ambiguous() {
        Check.accepts(Check.compiled("A=a", "A=b"), "a", "A10-1^-1 a0-1^0");
        Check.accepts(Check.compiled("A=a", "A=a"), "a", "A1!0-1^-1 a0-1^0");
        Check.accepts(Check.compiled("A=b", "A=a", "A=b", "A=a"), "a", "A2!0-1^-1 a0-1^0");
        Check.accepts(Check.compiled("A=a", "A=B", "B=a"), "a", "A1!0-1^-1 a0-1^0");
        // Both derivations may differ from the first one later on, but not before.
        Check.accepts(Check.compiled("A=BB", "B=a", "B=aa", "B=aaa"), "aaaa",
                "A10-4^-1 B1!0-1^0 a0-1^1 B31-4^0 a1-2^3 a2-3^3 a3-4^3");
    }

    // What could be taken for the next tokens does not count if no derivation comes of it.
    private static void stillComplete() {
        AdaptiveLlStar x = Check.compiled("A=Bc", "B=a", "B=ab", "B=aC", "C=b", "C=");
        Check.accepts(x, "ac", "A10-2^-1 B1!0-1^0 a0-1^1 c1-2^0");
        Check.accepts(x, "abc", "A10-3^-1 B2!0-2^0 a0-1^1 b1-2^1 c2-3^0");
        AdaptiveLlStar y = Check.compiled("A=Bc", "B=a", "B=ab", "B=aC", "C=b");
        Check.accepts(y, "ac", "A10-2^-1 B10-1^0 a0-1^1 c1-2^0");
        AdaptiveLlStar z = Check.compiled("A=BD", "B=a", "B=ab", "D=bc", "D=d");
        Check.accepts(z, "abc", "A10-3^-1 B10-1^0 a0-1^1 D11-3^0 b1-2^3 c2-3^3");
        Check.accepts(z, "abd", "A10-3^-1 B20-2^0 a0-1^1 b1-2^1 D22-3^0 d2-3^4");
    }

    private static void keptBefore() {
        AdaptiveLlStar x = Check.compiled("A=BCD", "B=a", "B=", "C=a", "C=", "D=a", "D=");
        Check.accepts(x, "a", "A10-1^-1 B1!0-1^0 a0-1^1 C21-1^0 D21-1^0");
        Check.accepts(x, "aa", "A10-2^-1 B1!0-1^0 a0-1^1 C1!1-2^0 a1-2^3 D22-2^0");
        Check.accepts(x, "aaa", "A10-3^-1 B10-1^0 a0-1^1 C11-2^0 a1-2^3 D12-3^0 a2-3^5");
        Check.accepts(x, "", "A10-0^-1 B20-0^0 C20-0^0 D20-0^0");
    }

    private static void viablePrefix() {
        AdaptiveLlStar x = Check.compiled("A=ab", "A=bBa", "B=bB", "B=");
        Check.rejects(x, "", 0);
        Check.rejects(x, "c", 0);
        Check.rejects(x, "a", 1);
        Check.rejects(x, "aa", 1);
        Check.rejects(x, "abb", 2);
        Check.rejects(x, "bbab", 3);
        Check.rejects(x, "bbbbbbbbbbbb", 12);
        Check.rejects(x, "bbbbbbbbbbbc", 11);
        // The greatest over all ways to read: the first way may stop early.
        AdaptiveLlStar y = Check.compiled("A=Bc", "A=aCd", "B=a", "C=aaC", "C=a");
        Check.rejects(y, "aaaa", 4);
        Check.rejects(y, "aaaac", 4);
        Check.rejects(y, "aaad", 3);
    }

    private static void viableBeyondLimits() {
        Check.rejects(Check.compiledWithin(1, 8, "A=ab"), "a", 1);
        Check.rejects(Check.compiledWithin(2, 8, "A=" + "a".repeat(48)), "aa", 2);
        Check.rejects(Check.compiledWithin(12, 8, "A=" + "a".repeat(48)), "aaaaaaaaaaaa", 12);
        Check.rejects(Check.compiledWithin(12, 8, "A=" + "B".repeat(40) + "a", "B="), "", 0);
        Check.rejects(Check.compiledWithin(12, 8, "A=" + "B".repeat(40) + "ab", "B="), "a", 1);
        Check.rejects(Check.compiledWithin(12, 8, "A=" + "B".repeat(40) + "ab", "B="), "aa", 1);
    }

    private static void current() {
        AdaptiveLlStar x = new AdaptiveLlStar(12, 64);
        Check.same("addTerminal(0) on a fresh one", x.addTerminal(0), false);
        Check.add(x, "A=", "B=", "A=");
        x.addTerminal(0);
        x.beginAlt(9);
        x.addRule(1);
        x.compile();
        x.addTerminal(2);
        Check.same("compile()", x.compile(), OK);
        Check.accepts(x, "ac", "A20-2^-1 a0-1^0 B11-1^0 c1-2^0");
        Check.accepts(x, "", "A10-0^-1");
        x.clearGrammar();
        Check.same("addTerminal(0) after clearGrammar()", x.addTerminal(0), false);
        Check.same("addRule(0) after clearGrammar()", x.addRule(0), false);
    }

    private static void inputSize() {
        for (int limit = 1; limit <= 12; limit++) {
            AdaptiveLlStar x = Check.compiledWithin(limit, 64, "A=aA", "A=");
            for (int length = 0; length <= limit; length++) {
                Check.same("parse()", Check.parse(x, "a".repeat(length)), AdaptiveLlStar.PARSE_ACCEPT);
                Check.same("nodeEnd(0)", x.nodeEnd(0), length);
                Check.same("another token", x.token(0), length < limit);
            }
        }
    }

    private static void changesClearCompiled() {
        AdaptiveLlStar x = Check.compiled("A=aA", "A=");
        Check.same("beginAlt(3)", x.beginAlt(3), true);
        uncompiled(x, "beginAlt");
        Check.same("addTerminal(0)", x.addTerminal(0), true);
        uncompiled(x, "addTerminal");
        Check.same("addRule(0)", x.addRule(0), true);
        uncompiled(x, "addRule");
        x.clearGrammar();
        Check.same("parse() after clearGrammar", x.parse(), AdaptiveLlStar.PARSE_NOT_COMPILED);
    }

    private static void uncompiled(AdaptiveLlStar x, String call) {
        Check.same("parse() after " + call, x.parse(), AdaptiveLlStar.PARSE_NOT_COMPILED);
        Check.same("compile() after " + call, x.compile(), OK);
        Check.same("parse() after compile()", x.parse(), AdaptiveLlStar.PARSE_ACCEPT);
    }

    private static void onlyParseChangesResult() {
        for (String state : States.names()) {
            AdaptiveLlStar x = States.make(state);
            String result = States.getters(x);
            x.token(0);
            x.token(16);
            x.compile();
            x.clearInput();
            x.addTerminal(0);
            x.addTerminal(16);
            x.addRule(0);
            x.addRule(8);
            x.beginAlt(0);
            x.beginAlt(8);
            x.compile();
            x.clearGrammar();
            x.compile();
            x.parse();
            x.parse();
            Check.same("result of the " + state + " one", States.getters(x), result);
            Check.add(x, "A=aA", "A=");
            Check.same("compile()", x.compile(), OK);
            Check.same("result of the " + state + " one", States.getters(x), result);
            Check.accepts(x, "a", "A10-1^-1 a0-1^0 A21-1^0");
        }
    }

    private static void refusedCalls() {
        States.unchanged("all calls that are refused anyway", x -> {
            x.beginAlt(-1);
            x.beginAlt(8);
            x.addTerminal(-1);
            x.addTerminal(16);
            x.addRule(-1);
            x.addRule(8);
            x.token(-1);
            x.token(16);
        });
        States.unchangedIn(new String[] {"full", "full and edited"}, "all calls that need room", x -> {
            x.beginAlt(0);
            x.addTerminal(0);
            x.addRule(0);
            x.token(0);
        });
        States.unchangedIn(new String[] {"alternatives full"}, "beginAlt(0)", x -> x.beginAlt(0));
        States.unchangedIn(new String[] {"symbols full"}, "addTerminal(0) and addRule(0)", x -> {
            x.addTerminal(0);
            x.addRule(0);
        });
        States.unchangedIn(new String[] {"input full"}, "token(0)", x -> x.token(0));
        States.unchangedIn(new String[] {"fresh", "cleared"}, "all calls that need a grammar", x -> {
            x.addTerminal(0);
            x.addRule(0);
            x.compile();
            x.parse();
        });
    }

    private static void startRule() {
        AdaptiveLlStar x = Check.compiled("H=b", "B=c", "A=a");
        Check.accepts(x, "a", "A10-1^-1 a0-1^0");
        Check.rejects(x, "b", 0);
        Check.rejects(x, "c", 0);
    }
}
