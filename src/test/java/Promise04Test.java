/** Promise 4, sentence by sentence: addTerminal. */
public final class Promise04Test {
    private static final String[] WITHOUT_CURRENT = {"fresh", "smallest", "cleared"};
    private static final String[] FULL = {"full", "full and edited", "symbols full"};

    public static void main(String[] args) {
        sentence("no current alternative -> false", Promise04Test::noCurrent);
        sentence("t outside 0..15 -> false", Promise04Test::wrongTerminal);
        sentence("MAX_SYMBOLS (48) symbols exist in all alternatives together -> false", Promise04Test::full);
        sentence("A false answer changes nothing.", Promise04Test::noCurrentChangesNothing);
        sentence("A false answer changes nothing.", Promise04Test::wrongTerminalChangesNothing);
        sentence("A false answer changes nothing.", Promise04Test::fullChangesNothing);
        sentence("it appends terminal t at the end of the current alternative", Promise04Test::appends);
        sentence("clears the compiled flag and answers true", Promise04Test::clearsCompiled);
        sentence("No other alternative changes", Promise04Test::keepsOthers);
        sentence("the current alternative stays the same", Promise04Test::keepsCurrent);
        sentence("input and result are untouched", Promise04Test::keepsInputAndResult);
        Check.end();
    }

    private static void sentence(String words, Runnable test) {
        Check.sentence("Promise 4", words, test);
    }

    private static void addAll(AdaptiveLlStar x) {
        for (int t = 0; t < 16; t++) {
            Check.same("addTerminal(" + t + ")", x.addTerminal(t), false);
        }
        addWrongOnes(x);
    }

    private static void addWrongOnes(AdaptiveLlStar x) {
        for (int t : Check.outside(0, 15)) {
            Check.same("addTerminal(" + t + ")", x.addTerminal(t), false);
        }
    }

    private static void noCurrent() {
        for (String state : WITHOUT_CURRENT) {
            addAll(States.make(state));
        }
        AdaptiveLlStar x = new AdaptiveLlStar(12, 64);
        x.beginAlt(-1);
        x.beginAlt(8);
        x.compile();
        addAll(x);
        AdaptiveLlStar y = States.make("full");
        y.clearGrammar();
        addAll(y);
    }

    private static void wrongTerminal() {
        for (String state : States.names()) {
            addWrongOnes(States.make(state));
        }
        AdaptiveLlStar x = Check.grammar("A=");
        Check.same("addTerminal(-1)", x.addTerminal(-1), false);
        Check.same("addTerminal(16)", x.addTerminal(16), false);
        Check.same("addTerminal(0)", x.addTerminal(0), true);
        Check.same("addTerminal(15)", x.addTerminal(15), true);
    }

    private static void full() {
        AdaptiveLlStar one = Check.grammar("A=");
        for (int i = 0; i < 48; i++) {
            Check.same("addTerminal when there are " + i, one.addTerminal(i % 16), true);
        }
        addAll(one);
        one.beginAlt(0);
        addAll(one);
        AdaptiveLlStar many = new AdaptiveLlStar(12, 64);
        for (int i = 0; i < 16; i++) {
            Check.add(many, (char) ('A' + i % 8) + "=abc");
        }
        addAll(many);
        AdaptiveLlStar mixed = Check.grammar("A=" + "B".repeat(20), "B=" + "a".repeat(27));
        Check.same("addTerminal when there are 47", mixed.addTerminal(0), true);
        addAll(mixed);
        AdaptiveLlStar rules = Check.grammar("A=", "A=" + "B".repeat(48), "B=");
        addAll(rules);
    }

    private static void noCurrentChangesNothing() {
        States.unchangedIn(WITHOUT_CURRENT, "addTerminal without a current alternative", Promise04Test::addAll);
        States.unchangedIn(WITHOUT_CURRENT, "addTerminal(0)", x -> x.addTerminal(0));
    }

    private static void wrongTerminalChangesNothing() {
        States.unchanged("addTerminal of wrong ones", Promise04Test::addWrongOnes);
        States.unchanged("addTerminal(-1)", x -> x.addTerminal(-1));
        States.unchanged("addTerminal(16)", x -> x.addTerminal(16));
        AdaptiveLlStar x = Check.compiled("A=a");
        Check.feed(x, "a");
        addWrongOnes(x);
        Check.same("parse() without a new compile()", x.parse(), AdaptiveLlStar.PARSE_ACCEPT);
        Check.same("result", Check.result(x), "1: A10-1^-1 a0-1^0");
        for (int i = 1; i < 48; i++) {
            Check.same("addTerminal when there are " + i, x.addTerminal(0), true);
        }
    }

    private static void fullChangesNothing() {
        States.unchangedIn(FULL, "addTerminal when there are 48", Promise04Test::addAll);
        States.unchangedIn(FULL, "addTerminal(0)", x -> x.addTerminal(0));
        AdaptiveLlStar x = Check.compiled("A=" + "B".repeat(31), "B=", "B=" + "a".repeat(17));
        addAll(x);
        Check.same("parse() without a new compile()", x.parse(), AdaptiveLlStar.PARSE_ACCEPT);
        Check.same("nodeCount()", x.nodeCount(), 32);
        Check.same("beginAlt(1)", x.beginAlt(1), true);
        addAll(x);
        Check.same("compile()", x.compile(), AdaptiveLlStar.COMPILE_OK);
        Check.same("parse()", x.parse(), AdaptiveLlStar.PARSE_ACCEPT);
        Check.same("the new one is still empty: nodeAmbiguous(1)", x.nodeAmbiguous(1), true);
    }

    private static void appends() {
        for (int t = 0; t < 16; t++) {
            AdaptiveLlStar x = Check.grammar("A=b");
            Check.same("addTerminal(" + t + ")", x.addTerminal(t), true);
            Check.same("addTerminal(2)", x.addTerminal(2), true);
            Check.same("compile()", x.compile(), AdaptiveLlStar.COMPILE_OK);
            char terminal = (char) ('a' + t);
            Check.accepts(x, "b" + terminal + "c", "A10-3^-1 b0-1^0 " + terminal + "1-2^0 c2-3^0");
            Check.rejects(x, "b" + (char) ('a' + (t + 1) % 16), 1);
        }
        AdaptiveLlStar y = Check.grammar("A=");
        for (int t = 0; t < 12; t++) {
            y.addTerminal(t);
        }
        y.compile();
        Check.same("parse()", Check.parse(y, "abcdefghijkl"), AdaptiveLlStar.PARSE_ACCEPT);
        Check.rejects(y, "abcdefghijk", 11);
    }

    private static void clearsCompiled() {
        for (int t = 0; t < 16; t++) {
            AdaptiveLlStar x = Check.compiled("A=aA", "A=");
            Check.same("addTerminal(" + t + ")", x.addTerminal(t), true);
            Check.same("parse() after addTerminal(" + t + ")", x.parse(), AdaptiveLlStar.PARSE_NOT_COMPILED);
            Check.same("compile()", x.compile(), AdaptiveLlStar.COMPILE_OK);
            Check.same("parse()", x.parse(), AdaptiveLlStar.PARSE_REJECT);
        }
    }

    private static void keepsOthers() {
        AdaptiveLlStar x = Check.grammar("A=a", "B=", "A=bB", "B=c", "B=");
        x.addTerminal(3);
        x.addTerminal(4);
        Check.same("compile()", x.compile(), AdaptiveLlStar.COMPILE_OK);
        Check.accepts(x, "a", "A10-1^-1 a0-1^0");
        Check.accepts(x, "b", "A20-1^-1 b0-1^0 B11-1^0");
        Check.accepts(x, "bc", "A20-2^-1 b0-1^0 B21-2^0 c1-2^2");
        Check.accepts(x, "bde", "A20-3^-1 b0-1^0 B31-3^0 d1-2^2 e2-3^2");
        Check.rejects(x, "ad", 1);
        Check.rejects(x, "bcd", 2);
    }

    private static void keepsCurrent() {
        AdaptiveLlStar x = Check.grammar("A=aB", "B=", "B=b");
        x.addTerminal(2);
        x.compile();
        x.addTerminal(3);
        x.addTerminal(16);
        x.addTerminal(4);
        Check.same("compile()", x.compile(), AdaptiveLlStar.COMPILE_OK);
        Check.accepts(x, "abcde", "A10-5^-1 a0-1^0 B21-5^0 b1-2^2 c2-3^2 d3-4^2 e4-5^2");
    }

    private static void keepsInputAndResult() {
        for (String state : States.names()) {
            AdaptiveLlStar x = States.make(state);
            String result = States.getters(x);
            x.addTerminal(0);
            x.addTerminal(15);
            Check.same("result of the " + state + " one", States.getters(x), result);
            Check.same("input of the " + state + " one", States.inputOf(x), States.inputOf(States.make(state)));
        }
    }
}
