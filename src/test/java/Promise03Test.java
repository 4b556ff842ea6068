/** Promise 3, sentence by sentence: beginAlt. */
public final class Promise03Test {
    public static void main(String[] args) {
        sentence("rule outside 0..7 (any other int, negative or large) -> answers false", Promise03Test::wrongRule);
        sentence("MAX_ALTS (16) alternatives exist over all rules together -> answers false", Promise03Test::full);
        sentence("A false answer changes nothing: the alternatives, the current alternative and the compiled flag"
                + " stay as they were.", Promise03Test::wrongRuleChangesNothing);
        sentence("A false answer changes nothing: the alternatives, the current alternative and the compiled flag"
                + " stay as they were.", Promise03Test::fullChangesNothing);
        sentence("it appends a new empty alternative of that rule", Promise03Test::appendsAnEmptyOne);
        sentence("whose number is 1 + the count of that rule's earlier alternatives (since the last `clearGrammar` or"
                + " construction)", Promise03Test::numbers);
        sentence("makes it the current alternative", Promise03Test::makesItCurrent);
        sentence("clears the compiled flag and answers true", Promise03Test::clearsCompiled);
        sentence("The rule becomes defined.", Promise03Test::defines);
        sentence("Earlier alternatives keep their symbols and numbers.", Promise03Test::keepsEarlierOnes);
        sentence("Input and result are untouched.", Promise03Test::keepsInputAndResult);
        Check.end();
    }

    private static void sentence(String words, Runnable test) {
        Check.sentence("Promise 3", words, test);
    }

    private static void beginWrongOnes(AdaptiveLlStar x) {
        for (int rule : Check.outside(0, 7)) {
            Check.same("beginAlt(" + rule + ")", x.beginAlt(rule), false);
        }
    }

    private static void beginAll(AdaptiveLlStar x) {
        for (int rule = 0; rule < 8; rule++) {
            Check.same("beginAlt(" + rule + ") when there are 16", x.beginAlt(rule), false);
        }
        beginWrongOnes(x);
    }

    private static void wrongRule() {
        beginWrongOnes(new AdaptiveLlStar(12, 64));
        beginWrongOnes(States.make("compiled"));
        beginWrongOnes(States.make("full"));
        Check.same("beginAlt(-1)", new AdaptiveLlStar(12, 64).beginAlt(-1), false);
        Check.same("beginAlt(8)", new AdaptiveLlStar(12, 64).beginAlt(8), false);
    }

    private static void full() {
        for (int rule = 0; rule < 8; rule++) {
            AdaptiveLlStar x = new AdaptiveLlStar(12, 64);
            for (int i = 0; i < 16; i++) {
                Check.same("beginAlt(" + rule + ") when there are " + i, x.beginAlt(rule), true);
            }
            beginAll(x);
        }
        AdaptiveLlStar spread = new AdaptiveLlStar(12, 64);
        for (int i = 0; i < 16; i++) {
            Check.same("beginAlt(" + i % 8 + ") when there are " + i, spread.beginAlt(i % 8), true);
            spread.addTerminal(0);
        }
        beginAll(spread);
        spread.compile();
        beginAll(spread);
        AdaptiveLlStar uneven = new AdaptiveLlStar(12, 64);
        for (int i = 0; i < 15; i++) {
            Check.same("beginAlt(7) when there are " + i, uneven.beginAlt(7), true);
        }
        Check.same("beginAlt(0) when there are 15", uneven.beginAlt(0), true);
        beginAll(uneven);
    }

    private static void wrongRuleChangesNothing() {
        States.unchanged("beginAlt of wrong rules", Promise03Test::beginWrongOnes);
        States.unchanged("beginAlt(-1)", x -> x.beginAlt(-1));
        States.unchanged("beginAlt(8)", x -> x.beginAlt(8));
        AdaptiveLlStar x = Check.compiled("A=a");
        Check.feed(x, "a");
        beginWrongOnes(x);
        Check.same("parse() without a new compile()", x.parse(), AdaptiveLlStar.PARSE_ACCEPT);
        Check.same("result", Check.result(x), "1: A10-1^-1 a0-1^0");
        Check.same("addTerminal(1) to the current one", x.addTerminal(1), true);
        Check.same("compile()", x.compile(), AdaptiveLlStar.COMPILE_OK);
        Check.accepts(x, "ab", "A10-2^-1 a0-1^0 b1-2^0");
        for (int i = 1; i < 16; i++) {
            Check.same("beginAlt(0) when there are " + i, x.beginAlt(0), true);
        }
    }

    private static void fullChangesNothing() {
        States.unchangedIn(new String[] {"full", "full and edited", "alternatives full"},
                "beginAlt when there are 16", Promise03Test::beginAll);
        AdaptiveLlStar x = Check.grammar(sixteen());
        beginAll(x);
        Check.same("addTerminal(1) to the current one", x.addTerminal(1), true);
        Check.same("compile()", x.compile(), AdaptiveLlStar.COMPILE_OK);
        beginAll(x);
        Check.accepts(x, "pb", "A160-2^-1 p0-1^0 b1-2^0");
        Check.accepts(x, "a", "A10-1^-1 a0-1^0");
    }

    private static String[] sixteen() {
        String[] alts = new String[16];
        for (int i = 0; i < 16; i++) {
            alts[i] = "A=" + (char) ('a' + i);
        }
        return alts;
    }

    private static void appendsAnEmptyOne() {
        AdaptiveLlStar x = Check.compiled("A=aB", "B=b");
        Check.same("beginAlt(1)", x.beginAlt(1), true);
        Check.same("compile()", x.compile(), AdaptiveLlStar.COMPILE_OK);
        Check.accepts(x, "a", "A10-1^-1 a0-1^0 B21-1^0");
        AdaptiveLlStar y = new AdaptiveLlStar(12, 64);
        Check.add(y, "A=" + "a".repeat(47) + "B", "B=");
        Check.same("beginAlt(0) when there are 48 symbols", y.beginAlt(0), true);
        Check.same("compile()", y.compile(), AdaptiveLlStar.COMPILE_OK);
        Check.accepts(y, "", "A20-0^-1");
        y.clearGrammar();
        Check.same("beginAlt(0) where symbols stood before", y.beginAlt(0), true);
        Check.same("compile()", y.compile(), AdaptiveLlStar.COMPILE_OK);
        Check.accepts(y, "", "A10-0^-1");
        Check.rejects(y, "a", 0);
    }

    private static void numbers() {
        AdaptiveLlStar x = Check.compiled(sixteen());
        for (int i = 0; i < 16; i++) {
            String terminal = String.valueOf((char) ('a' + i));
            Check.accepts(x, terminal, "A" + (i + 1) + "0-1^-1 " + terminal + "0-1^0");
        }
        AdaptiveLlStar y = new AdaptiveLlStar(12, 64);
        for (int turn = 0; turn < 2; turn++) {
            y.clearGrammar();
            Check.add(y, "H=a", "A=aH", "H=b", "G=a");
            y.beginAlt(-1);
            y.beginAlt(8);
            Check.add(y, "H=c", "A=bG", "G=b", "H=d");
            Check.same("compile()", y.compile(), AdaptiveLlStar.COMPILE_OK);
            Check.accepts(y, "aa", "A10-2^-1 a0-1^0 H11-2^0 a1-2^2");
            Check.accepts(y, "ac", "A10-2^-1 a0-1^0 H31-2^0 c1-2^2");
            Check.accepts(y, "ad", "A10-2^-1 a0-1^0 H41-2^0 d1-2^2");
            Check.accepts(y, "bb", "A20-2^-1 b0-1^0 G21-2^0 b1-2^2");
        }
    }

    private static void makesItCurrent() {
        AdaptiveLlStar x = Check.grammar("A=aB", "B=b");
        Check.same("beginAlt(0)", x.beginAlt(0), true);
        Check.same("addTerminal(2)", x.addTerminal(2), true);
        Check.same("addRule(1)", x.addRule(1), true);
        Check.same("beginAlt(1)", x.beginAlt(1), true);
        Check.same("addTerminal(3)", x.addTerminal(3), true);
        Check.same("compile()", x.compile(), AdaptiveLlStar.COMPILE_OK);
        Check.accepts(x, "ab", "A10-2^-1 a0-1^0 B11-2^0 b1-2^2");
        Check.accepts(x, "cd", "A20-2^-1 c0-1^0 B21-2^0 d1-2^2");
    }

    private static void clearsCompiled() {
        for (int rule = 0; rule < 8; rule++) {
            AdaptiveLlStar x = Check.compiled("A=aA", "A=");
            Check.same("beginAlt(" + rule + ")", x.beginAlt(rule), true);
            Check.same("parse() after beginAlt(" + rule + ")", x.parse(), AdaptiveLlStar.PARSE_NOT_COMPILED);
            Check.same("compile()", x.compile(), AdaptiveLlStar.COMPILE_OK);
            Check.same("parse()", x.parse(), AdaptiveLlStar.PARSE_ACCEPT);
        }
    }

    private static void defines() {
        for (int rule = 1; rule < 8; rule++) {
            AdaptiveLlStar x = new AdaptiveLlStar(12, 64);
            Check.add(x, "A=a" + (char) ('A' + rule));
            Check.same("compile()", x.compile(), AdaptiveLlStar.COMPILE_UNDEFINED_RULE);
            Check.same("beginAlt(" + rule + ")", x.beginAlt(rule), true);
            Check.same("compile() after beginAlt(" + rule + ")", x.compile(), AdaptiveLlStar.COMPILE_OK);
        }
        AdaptiveLlStar y = Check.grammar("B=a");
        Check.same("compile()", y.compile(), AdaptiveLlStar.COMPILE_NO_START);
        Check.same("beginAlt(0)", y.beginAlt(0), true);
        Check.same("compile() after beginAlt(0)", y.compile(), AdaptiveLlStar.COMPILE_OK);
    }

    private static void keepsEarlierOnes() {
        AdaptiveLlStar x = Check.compiled("A=aBb", "B=cc", "A=d");
        Check.add(x, "B=e", "A=aBf", "C=a");
        Check.same("compile()", x.compile(), AdaptiveLlStar.COMPILE_OK);
        Check.accepts(x, "accb", "A10-4^-1 a0-1^0 B11-3^0 c1-2^2 c2-3^2 b3-4^0");
        Check.accepts(x, "d", "A20-1^-1 d0-1^0");
        Check.accepts(x, "aef", "A30-3^-1 a0-1^0 B21-2^0 e1-2^2 f2-3^0");
    }

    private static void keepsInputAndResult() {
        for (String state : States.names()) {
            AdaptiveLlStar x = States.make(state);
            String result = States.getters(x);
            x.beginAlt(0);
            x.beginAlt(7);
            Check.same("result of the " + state + " one", States.getters(x), result);
            Check.same("input of the " + state + " one", States.inputOf(x), States.inputOf(States.make(state)));
        }
    }
}
