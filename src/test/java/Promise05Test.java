/** Promise 5, sentence by sentence: addRule. */
public final class Promise05Test {
    private static final String[] WITHOUT_CURRENT = {"fresh", "smallest", "cleared"};
    private static final String[] FULL = {"full", "full and edited", "symbols full"};

    public static void main(String[] args) {
        sentence("no current alternative -> false", Promise05Test::noCurrent);
        sentence("rule outside 0..7 -> false", Promise05Test::wrongRule);
        sentence("MAX_SYMBOLS (48) symbols exist in all alternatives together -> false", Promise05Test::full);
        sentence("A false answer changes nothing.", Promise05Test::noCurrentChangesNothing);
        sentence("A false answer changes nothing.", Promise05Test::wrongRuleChangesNothing);
        sentence("A false answer changes nothing.", Promise05Test::fullChangesNothing);
        sentence("it appends a reference to that rule at the end of the current alternative", Promise05Test::appends);
        sentence("clears the compiled flag and answers true", Promise05Test::clearsCompiled);
        sentence("The referenced rule need not be defined yet; `compile` checks that.", Promise05Test::undefinedRule);
        sentence("Input and result are untouched.", Promise05Test::keepsInputAndResult);
        sentence("behaves as `addTerminal`", Promise05Test::keepsOthersAndCurrent);
        Check.end();
    }

    private static void sentence(String words, Runnable test) {
        Check.sentence("Promise 5", words, test);
    }

    private static void addAll(AdaptiveLlStar x) {
        for (int rule = 0; rule < 8; rule++) {
            Check.same("addRule(" + rule + ")", x.addRule(rule), false);
        }
        addWrongOnes(x);
    }

    private static void addWrongOnes(AdaptiveLlStar x) {
        for (int rule : Check.outside(0, 7)) {
            Check.same("addRule(" + rule + ")", x.addRule(rule), false);
        }
    }

    private static void noCurrent() {
        for (String state : WITHOUT_CURRENT) {
            addAll(States.make(state));
        }
        AdaptiveLlStar x = new AdaptiveLlStar(12, 64);
        x.beginAlt(-1);
        x.beginAlt(8);
        x.compile();
        addAll(x);
        AdaptiveLlStar y = States.make("full");
        y.clearGrammar();
        addAll(y);
    }

    private static void wrongRule() {
        for (String state : States.names()) {
            addWrongOnes(States.make(state));
        }
        AdaptiveLlStar x = Check.grammar("A=");
        Check.same("addRule(-1)", x.addRule(-1), false);
        Check.same("addRule(8)", x.addRule(8), false);
        Check.same("addRule(0)", x.addRule(0), true);
        Check.same("addRule(7)", x.addRule(7), true);
    }

    private static void full() {
        AdaptiveLlStar one = Check.grammar("A=");
        for (int i = 0; i < 48; i++) {
            Check.same("addRule when there are " + i, one.addRule(i % 8), true);
        }
        addAll(one);
        one.beginAlt(0);
        addAll(one);
        AdaptiveLlStar many = new AdaptiveLlStar(12, 64);
        for (int i = 0; i < 16; i++) {
            Check.add(many, (char) ('A' + i % 8) + "=HAH");
        }
        addAll(many);
        AdaptiveLlStar mixed = Check.grammar("A=" + "B".repeat(20), "B=" + "a".repeat(27));
        Check.same("addRule when there are 47", mixed.addRule(0), true);
        addAll(mixed);
        AdaptiveLlStar terminals = Check.grammar("A=", "A=" + "a".repeat(48), "B=");
        addAll(terminals);
    }

    private static void noCurrentChangesNothing() {
        States.unchangedIn(WITHOUT_CURRENT, "addRule without a current alternative", Promise05Test::addAll);
        States.unchangedIn(WITHOUT_CURRENT, "addRule(0)", x -> x.addRule(0));
    }

    private static void wrongRuleChangesNothing() {
        States.unchanged("addRule of wrong ones", Promise05Test::addWrongOnes);
        States.unchanged("addRule(-1)", x -> x.addRule(-1));
        States.unchanged("addRule(8)", x -> x.addRule(8));
        AdaptiveLlStar x = Check.compiled("A=aA", "A=");
        Check.feed(x, "a");
        addWrongOnes(x);
        Check.same("parse() without a new compile()", x.parse(), AdaptiveLlStar.PARSE_ACCEPT);
        Check.same("result", Check.result(x), "1: A10-1^-1 a0-1^0 A21-1^0");
        for (int i = 2; i < 48; i++) {
            Check.same("addRule when there are " + i, x.addRule(0), true);
        }
    }

    private static void fullChangesNothing() {
        States.unchangedIn(FULL, "addRule when there are 48", Promise05Test::addAll);
        States.unchangedIn(FULL, "addRule(0)", x -> x.addRule(0));
        AdaptiveLlStar x = Check.compiled("A=" + "B".repeat(31), "B=", "B=" + "a".repeat(17));
        addAll(x);
        Check.same("parse() without a new compile()", x.parse(), AdaptiveLlStar.PARSE_ACCEPT);
        Check.same("nodeCount()", x.nodeCount(), 32);
        Check.same("beginAlt(1)", x.beginAlt(1), true);
        addAll(x);
        Check.same("compile()", x.compile(), AdaptiveLlStar.COMPILE_OK);
        Check.same("parse()", x.parse(), AdaptiveLlStar.PARSE_ACCEPT);
        Check.same("the new one is still empty: nodeAmbiguous(1)", x.nodeAmbiguous(1), true);
    }

    private static void appends() {
        for (int rule = 0; rule < 8; rule++) {
            AdaptiveLlStar x = Check.grammar("B=b", "C=c", "D=d", "E=e", "F=f", "G=g", "H=h", "A=a", "A=b");
            Check.same("addRule(" + rule + ")", x.addRule(rule), true);
            Check.same("addTerminal(2)", x.addTerminal(2), true);
            Check.same("compile()", x.compile(), AdaptiveLlStar.COMPILE_OK);
            char terminal = (char) ('a' + rule);
            char named = (char) ('A' + rule);
            Check.accepts(x, "b" + terminal + "c", "A20-3^-1 b0-1^0 " + named + "11-2^0 " + terminal + "1-2^2 c2-3^0");
            Check.rejects(x, "bp", 1);
        }
        AdaptiveLlStar y = Check.grammar("B=b", "H=h", "A=");
        int[] rules = {7, 1, 1, 7};
        for (int rule : rules) {
            y.addRule(rule);
        }
        Check.same("compile()", y.compile(), AdaptiveLlStar.COMPILE_OK);
        Check.accepts(y, "hbbh", "A10-4^-1 H10-1^0 h0-1^1 B11-2^0 b1-2^3 B12-3^0 b2-3^5 H13-4^0 h3-4^7");
    }

    private static void clearsCompiled() {
        for (int rule = 0; rule < 8; rule++) {
            AdaptiveLlStar x = Check.compiled("B=", "C=", "D=", "E=", "F=", "G=", "H=", "A=b", "A=a");
            Check.same("addRule(" + rule + ")", x.addRule(rule), true);
            Check.same("parse() after addRule(" + rule + ")", x.parse(), AdaptiveLlStar.PARSE_NOT_COMPILED);
            Check.same("compile()", x.compile(), AdaptiveLlStar.COMPILE_OK);
            Check.same("parse()", x.parse(), AdaptiveLlStar.PARSE_REJECT);
        }
    }

    private static void undefinedRule() {
        for (int rule = 1; rule < 8; rule++) {
            AdaptiveLlStar x = Check.grammar("A=a");
            Check.same("addRule(" + rule + ")", x.addRule(rule), true);
            Check.same("compile()", x.compile(), AdaptiveLlStar.COMPILE_UNDEFINED_RULE);
            Check.same("beginAlt(" + rule + ")", x.beginAlt(rule), true);
            Check.same("compile()", x.compile(), AdaptiveLlStar.COMPILE_OK);
            Check.accepts(x, "a", "A10-1^-1 a0-1^0 " + (char) ('A' + rule) + "11-1^0");
        }
    }

    private static void keepsInputAndResult() {
        for (String state : States.names()) {
            AdaptiveLlStar x = States.make(state);
            String result = States.getters(x);
            x.addRule(0);
            x.addRule(7);
            Check.same("result of the " + state + " one", States.getters(x), result);
            Check.same("input of the " + state + " one", States.inputOf(x), States.inputOf(States.make(state)));
        }
    }

    private static void keepsOthersAndCurrent() {
        AdaptiveLlStar x = Check.grammar("C=c", "A=a", "B=", "A=bB", "B=c", "B=");
        x.addRule(2);
        x.compile();
        x.addRule(8);
        x.addRule(2);
        x.addTerminal(3);
        Check.same("compile()", x.compile(), AdaptiveLlStar.COMPILE_OK);
        Check.accepts(x, "a", "A10-1^-1 a0-1^0");
        Check.accepts(x, "b", "A20-1^-1 b0-1^0 B11-1^0");
        Check.accepts(x, "bc", "A20-2^-1 b0-1^0 B21-2^0 c1-2^2");
        Check.accepts(x, "bccd", "A20-4^-1 b0-1^0 B31-4^0 C11-2^2 c1-2^3 C12-3^2 c2-3^5 d3-4^2");
        Check.rejects(x, "ac", 1);
    }
}
