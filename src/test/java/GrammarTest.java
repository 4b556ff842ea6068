/** Promises 2 to 5: clearGrammar, beginAlt, addTerminal, addRule. */
public final class GrammarTest {
    public static void main(String[] args) {
        clearGrammarForgetsTheGrammar();
        clearGrammarKeepsInputAndResult();
        clearGrammarWithoutAlternatives();
        clearGrammarGivesAllRoomBack();
        beginAltRefusesWrongRules();
        beginAltRefusesTheSeventeenth();
        beginAltNumbersByRule();
        beginAltClearsCompiledAlone();
        addRefusesWithoutAlternative();
        addRefusesWrongSymbols();
        addTakesEverySymbol();
        addRefusesTheFortyNinth();
        addClearsCompiledAlone();
        addGoesToTheNewest();
        Check.end();
    }

    private static void clearGrammarForgetsTheGrammar() {
        AdaptiveLlStar x = Check.compiled("A=aA", "A=b");
        x.clearGrammar();
        Check.same("addTerminal", x.addTerminal(0), false);
        Check.same("addRule", x.addRule(0), false);
        Check.same("parse()", x.parse(), AdaptiveLlStar.PARSE_NOT_COMPILED);
        Check.same("compile()", x.compile(), AdaptiveLlStar.COMPILE_NO_START);
        Check.add(x, "A=c", "A=d");
        Check.same("compile()", x.compile(), AdaptiveLlStar.COMPILE_OK);
        Check.accepts(x, "d", "A20-1^-1 d0-1^0");
        Check.rejects(x, "b", 0);
        x.clearGrammar();
        Check.add(x, "A=B", "B=d");
        Check.same("compile()", x.compile(), AdaptiveLlStar.COMPILE_OK);
        Check.accepts(x, "d", "A10-1^-1 B10-1^0 d0-1^1");
        x.clearGrammar();
        Check.add(x, "A=", "A=");
        Check.same("compile()", x.compile(), AdaptiveLlStar.COMPILE_OK);
        Check.accepts(x, "", "A1!0-0^-1");
        Check.rejects(x, "d", 0);
    }

    private static void clearGrammarKeepsInputAndResult() {
        AdaptiveLlStar x = Check.compiled("A=aA", "A=aA", "A=");
        Check.accepts(x, "a", "A1!0-1^-1 a0-1^0 A31-1^0");
        x.token(1);
        x.clearGrammar();
        Check.same("result", Check.result(x), "1: A1!0-1^-1 a0-1^0 A31-1^0");
        Check.nothingOutOfRange(x);
        Check.add(x, "A=ab");
        Check.same("compile()", x.compile(), AdaptiveLlStar.COMPILE_OK);
        Check.same("result", Check.result(x), "1: A1!0-1^-1 a0-1^0 A31-1^0");
        Check.same("parse()", x.parse(), AdaptiveLlStar.PARSE_ACCEPT);
        Check.same("result", Check.result(x), "2: A10-2^-1 a0-1^0 b1-2^0");
        Check.rejects(x, "aa", 1);
        x.clearGrammar();
        Check.same("result", Check.result(x), "1: ");
    }

    private static void clearGrammarWithoutAlternatives() {
        AdaptiveLlStar x = new AdaptiveLlStar(12, 64);
        x.token(3);
        x.clearGrammar();
        x.clearGrammar();
        Check.same("addTerminal", x.addTerminal(0), false);
        Check.same("compile()", x.compile(), AdaptiveLlStar.COMPILE_NO_START);
        Check.same("parse()", x.parse(), AdaptiveLlStar.PARSE_NOT_COMPILED);
        Check.add(x, "A=d");
        Check.same("compile()", x.compile(), AdaptiveLlStar.COMPILE_OK);
        Check.same("parse()", x.parse(), AdaptiveLlStar.PARSE_ACCEPT);
        Check.same("result", Check.result(x), "1: A10-1^-1 d0-1^0");
    }

    private static void clearGrammarGivesAllRoomBack() {
        AdaptiveLlStar x = new AdaptiveLlStar(12, 64);
        for (int turn = 0; turn < 3; turn++) {
            for (int i = 0; i < 16; i++) {
                Check.add(x, "A=abc");
            }
            Check.same("beginAlt in a full grammar", x.beginAlt(0), false);
            Check.same("addTerminal in a full grammar", x.addTerminal(0), false);
            Check.same("addRule in a full grammar", x.addRule(0), false);
            x.clearGrammar();
        }
    }

    private static void beginAltRefusesWrongRules() {
        AdaptiveLlStar x = Check.compiled("A=a");
        int[] wrongs = {-1, 8, 9, 16, Integer.MAX_VALUE, Integer.MIN_VALUE, -8, 1 << 16, 256};
        for (int rule : wrongs) {
            Check.same("beginAlt(" + rule + ")", x.beginAlt(rule), false);
            Check.accepts(x, "a", "A10-1^-1 a0-1^0");
        }
        Check.same("addTerminal to the old current one", x.addTerminal(1), true);
        Check.same("compile()", x.compile(), AdaptiveLlStar.COMPILE_OK);
        Check.accepts(x, "ab", "A10-2^-1 a0-1^0 b1-2^0");
        AdaptiveLlStar y = new AdaptiveLlStar(12, 64);
        Check.same("beginAlt(8)", y.beginAlt(8), false);
        Check.same("beginAlt(-1)", y.beginAlt(-1), false);
        Check.same("addTerminal", y.addTerminal(0), false);
    }

    private static void beginAltRefusesTheSeventeenth() {
        AdaptiveLlStar x = new AdaptiveLlStar(12, 64);
        for (int i = 0; i < 16; i++) {
            Check.same("beginAlt " + i, x.beginAlt(i % 8), true);
            Check.same("addTerminal " + i, x.addTerminal(i), true);
        }
        Check.same("compile()", x.compile(), AdaptiveLlStar.COMPILE_OK);
        for (int rule = -1; rule <= 8; rule++) {
            Check.same("beginAlt the seventeenth", x.beginAlt(rule), false);
        }
        Check.accepts(x, "i", "A20-1^-1 i0-1^0");
        Check.same("addTerminal to the sixteenth", x.addTerminal(0), true);
        Check.same("parse()", x.parse(), AdaptiveLlStar.PARSE_NOT_COMPILED);
        Check.same("compile()", x.compile(), AdaptiveLlStar.COMPILE_OK);
        Check.accepts(x, "i", "A20-1^-1 i0-1^0");
    }

    private static void beginAltNumbersByRule() {
        AdaptiveLlStar x = Check.compiled("B=a", "A=B", "B=b", "A=Bc", "H=d", "B=c", "A=H", "H=e");
        Check.accepts(x, "a", "A10-1^-1 B10-1^0 a0-1^1");
        Check.accepts(x, "b", "A10-1^-1 B20-1^0 b0-1^1");
        Check.accepts(x, "c", "A10-1^-1 B30-1^0 c0-1^1");
        Check.accepts(x, "bc", "A20-2^-1 B20-1^0 b0-1^1 c1-2^0");
        Check.accepts(x, "d", "A30-1^-1 H10-1^0 d0-1^1");
        Check.accepts(x, "e", "A30-1^-1 H20-1^0 e0-1^1");
        AdaptiveLlStar y = Check.compiled("A=a", "A=b", "A=c", "A=d", "A=e", "A=f", "A=g", "A=h",
                "A=i", "A=j", "A=k", "A=l", "A=m", "A=n", "A=o", "A=p");
        for (int i = 0; i < 16; i++) {
            String terminal = String.valueOf((char) ('a' + i));
            Check.accepts(y, terminal, "A" + (i + 1) + "0-1^-1 " + terminal + "0-1^0");
        }
    }

    private static void beginAltClearsCompiledAlone() {
        AdaptiveLlStar x = Check.compiled("A=ab");
        Check.accepts(x, "ab", "A10-2^-1 a0-1^0 b1-2^0");
        Check.same("beginAlt(7)", x.beginAlt(7), true);
        Check.same("parse()", x.parse(), AdaptiveLlStar.PARSE_NOT_COMPILED);
        Check.same("result", Check.result(x), "2: A10-2^-1 a0-1^0 b1-2^0");
        Check.same("compile()", x.compile(), AdaptiveLlStar.COMPILE_OK);
        Check.same("parse() of the kept input", x.parse(), AdaptiveLlStar.PARSE_ACCEPT);
        Check.same("result", Check.result(x), "2: A10-2^-1 a0-1^0 b1-2^0");
        Check.add(x, "A=");
        Check.same("compile()", x.compile(), AdaptiveLlStar.COMPILE_OK);
        Check.accepts(x, "", "A20-0^-1");
    }

    private static void addRefusesWithoutAlternative() {
        AdaptiveLlStar x = new AdaptiveLlStar(12, 64);
        for (int i = -2; i < 20; i++) {
            Check.same("addTerminal(" + i + ")", x.addTerminal(i), false);
            Check.same("addRule(" + i + ")", x.addRule(i), false);
        }
        Check.add(x, "A=a");
        Check.same("compile()", x.compile(), AdaptiveLlStar.COMPILE_OK);
        Check.accepts(x, "a", "A10-1^-1 a0-1^0");
    }

    private static void addRefusesWrongSymbols() {
        AdaptiveLlStar x = Check.compiled("A=a");
        int[] wrongTerminals = {-1, 16, 17, 24, Integer.MAX_VALUE, Integer.MIN_VALUE, 1 << 16, -16};
        for (int t : wrongTerminals) {
            Check.same("addTerminal(" + t + ")", x.addTerminal(t), false);
        }
        int[] wrongRules = {-1, 8, 9, 15, 16, Integer.MAX_VALUE, Integer.MIN_VALUE, Integer.MAX_VALUE - 15, -16};
        for (int rule : wrongRules) {
            Check.same("addRule(" + rule + ")", x.addRule(rule), false);
        }
        Check.accepts(x, "a", "A10-1^-1 a0-1^0");
    }

    private static void addTakesEverySymbol() {
        AdaptiveLlStar x = new AdaptiveLlStar(12, 64);
        Check.add(x, "A=BCDEFGH", "B=a", "C=b", "D=o", "E=p", "F=h", "G=i", "H=c", "H=A");
        Check.same("compile()", x.compile(), AdaptiveLlStar.COMPILE_OK);
        Check.accepts(x, "abophic", "A10-7^-1 B10-1^0 a0-1^1 C11-2^0 b1-2^3 D12-3^0 o2-3^5 E13-4^0 p3-4^7"
                + " F14-5^0 h4-5^9 G15-6^0 i5-6^11 H16-7^0 c6-7^13");
    }

    private static void addRefusesTheFortyNinth() {
        AdaptiveLlStar x = new AdaptiveLlStar(12, 64);
        Check.add(x, "A=" + "B".repeat(30), "B=", "B=" + "a".repeat(17));
        Check.same("the 48th symbol", x.addRule(2), true);
        Check.same("the 49th symbol, a terminal", x.addTerminal(0), false);
        Check.same("the 49th symbol, a rule", x.addRule(2), false);
        Check.add(x, "C=");
        Check.same("the 49th symbol in a new one", x.addTerminal(0), false);
        Check.same("the 49th symbol in a new one", x.addRule(0), false);
        Check.same("compile()", x.compile(), AdaptiveLlStar.COMPILE_OK);
        Check.same("the 49th symbol again", x.addTerminal(0), false);
        Check.same("the 49th symbol again", x.addRule(0), false);
        Check.same("parse()", x.parse(), AdaptiveLlStar.PARSE_ACCEPT);
        Check.same("nodeCount()", x.nodeCount(), 31);
    }

    private static void addClearsCompiledAlone() {
        AdaptiveLlStar x = Check.compiled("A=a");
        Check.accepts(x, "a", "A10-1^-1 a0-1^0");
        Check.same("addTerminal(1)", x.addTerminal(1), true);
        Check.same("parse()", x.parse(), AdaptiveLlStar.PARSE_NOT_COMPILED);
        Check.same("result", Check.result(x), "1: A10-1^-1 a0-1^0");
        Check.same("compile()", x.compile(), AdaptiveLlStar.COMPILE_OK);
        Check.same("parse() of the kept input", x.parse(), AdaptiveLlStar.PARSE_REJECT);
        Check.same("result", Check.result(x), "1: ");
        Check.same("addRule(1)", x.addRule(1), true);
        Check.same("parse()", x.parse(), AdaptiveLlStar.PARSE_NOT_COMPILED);
        Check.same("compile()", x.compile(), AdaptiveLlStar.COMPILE_UNDEFINED_RULE);
        Check.same("parse()", x.parse(), AdaptiveLlStar.PARSE_NOT_COMPILED);
        Check.add(x, "B=c");
        Check.same("compile()", x.compile(), AdaptiveLlStar.COMPILE_OK);
        Check.accepts(x, "abc", "A10-3^-1 a0-1^0 b1-2^0 B12-3^0 c2-3^3");
    }

    private static void addGoesToTheNewest() {
        AdaptiveLlStar x = Check.grammar("A=aB", "B=b", "A=c");
        x.addRule(1);
        x.addTerminal(3);
        Check.same("compile()", x.compile(), AdaptiveLlStar.COMPILE_OK);
        Check.accepts(x, "ab", "A10-2^-1 a0-1^0 B11-2^0 b1-2^2");
        Check.accepts(x, "cbd", "A20-3^-1 c0-1^0 B11-2^0 b1-2^2 d2-3^0");
    }
}
