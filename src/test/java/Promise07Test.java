/** Promise 7, sentence by sentence: token. */
public final class Promise07Test {
    public static void main(String[] args) {
        sentence("t outside 0..15 -> false", Promise07Test::wrongType);
        sentence("the input already holds tokenLimit tokens -> false", Promise07Test::full);
        sentence("A false answer changes nothing.", Promise07Test::wrongTypeChangesNothing);
        sentence("A false answer changes nothing.", Promise07Test::fullChangesNothing);
        sentence("it appends t to the end of the input and answers true", Promise07Test::appends);
        sentence("Grammar (alternatives, current alternative, compiled flag) and result are untouched.",
                Promise07Test::keepsGrammarAndResult);
        Check.end();
    }

    private static void sentence(String words, Runnable test) {
        Check.sentence("Promise 7", words, test);
    }

    private static void feedWrongOnes(AdaptiveLlStar x) {
        for (int t : Check.outside(0, 15)) {
            Check.same("token(" + t + ")", x.token(t), false);
        }
    }

    private static void feedAll(AdaptiveLlStar x) {
        for (int t = 0; t < 16; t++) {
            Check.same("token(" + t + ") to a full input", x.token(t), false);
        }
        feedWrongOnes(x);
    }

    private static void wrongType() {
        for (String state : States.names()) {
            feedWrongOnes(States.make(state));
        }
        AdaptiveLlStar x = new AdaptiveLlStar(12, 64);
        Check.same("token(-1)", x.token(-1), false);
        Check.same("token(16)", x.token(16), false);
        Check.same("token(0)", x.token(0), true);
        Check.same("token(15)", x.token(15), true);
    }

    private static void full() {
        for (int limit = 1; limit <= 12; limit++) {
            AdaptiveLlStar x = new AdaptiveLlStar(limit, 64);
            for (int i = 0; i < limit; i++) {
                Check.same("token when there are " + i + " of " + limit, x.token(i), true);
            }
            feedAll(x);
            x.clearGrammar();
            x.parse();
            feedAll(x);
        }
    }

    private static void wrongTypeChangesNothing() {
        States.unchanged("token of wrong types", Promise07Test::feedWrongOnes);
        States.unchanged("token(-1)", x -> x.token(-1));
        States.unchanged("token(16)", x -> x.token(16));
        AdaptiveLlStar x = Check.compiledWithin(3, 64, "A=aA", "A=");
        feedWrongOnes(x);
        Check.same("parse() of nothing", x.parse(), AdaptiveLlStar.PARSE_ACCEPT);
        Check.same("result", Check.result(x), "0: A20-0^-1");
        Check.feed(x, "a");
        feedWrongOnes(x);
        Check.same("parse()", x.parse(), AdaptiveLlStar.PARSE_ACCEPT);
        Check.same("result", Check.result(x), "1: A10-1^-1 a0-1^0 A21-1^0");
        Check.feed(x, "aa");
        Check.same("token(0) too many", x.token(0), false);
    }

    private static void fullChangesNothing() {
        States.unchangedIn(new String[] {"full", "full and edited", "input full"}, "token to a full input",
                Promise07Test::feedAll);
        for (int limit = 1; limit <= 12; limit++) {
            AdaptiveLlStar x = Check.compiledWithin(limit, 64, "A=aA", "A=");
            Check.feed(x, "a".repeat(limit));
            feedAll(x);
            Check.same("parse()", x.parse(), AdaptiveLlStar.PARSE_ACCEPT);
            Check.same("nodeCount()", x.nodeCount(), 2 * limit + 1);
            Check.same("nodeEnd(0)", x.nodeEnd(0), limit);
            String result = States.getters(x);
            feedAll(x);
            Check.same("result", States.getters(x), result);
            Check.same("parse() again", x.parse(), AdaptiveLlStar.PARSE_ACCEPT);
            Check.same("result", States.getters(x), result);
        }
    }

    private static void appends() {
        for (int t = 0; t < 16; t++) {
            char type = (char) ('a' + t);
            AdaptiveLlStar x = Check.compiled("A=b" + type + "c");
            Check.accepts(x, "b" + type + "c", "A10-3^-1 b0-1^0 " + type + "1-2^0 c2-3^0");
            Check.rejects(x, "b" + (char) ('a' + (t + 15) % 16) + "c", 1);
        }
        AdaptiveLlStar y = Check.compiledWithin(12, 64, "A=abcdefghijkl");
        for (int t = 0; t < 12; t++) {
            Check.same("parse() with " + t + " tokens", y.parse(), AdaptiveLlStar.PARSE_REJECT);
            Check.same("errorPosition()", y.errorPosition(), t);
            Check.same("token(" + t + ")", y.token(t), true);
        }
        Check.same("parse() with 12 tokens", y.parse(), AdaptiveLlStar.PARSE_ACCEPT);
    }

    private static AdaptiveLlStar emptied(String state, boolean withTokens) {
        AdaptiveLlStar x = States.make(state);
        x.clearInput();
        if (withTokens) {
            x.token(0);
            x.token(15);
            x.clearInput();
        }
        return x;
    }

    private static void keepsGrammarAndResult() {
        for (String state : States.names()) {
            AdaptiveLlStar x = States.make(state);
            String result = States.getters(x);
            x.clearInput();
            Check.same("token(0) to the " + state + " one", x.token(0), true);
            Check.same("result of the " + state + " one", States.getters(x), result);
            // With the input taken back, all else must look as if the token had never come.
            States.sameLooks("token(0) on the " + state + " one", () -> emptied(state, true),
                    () -> emptied(state, false));
        }
        AdaptiveLlStar y = Check.compiled("A=a");
        Check.same("token(0)", y.token(0), true);
        Check.same("parse() without a new compile()", y.parse(), AdaptiveLlStar.PARSE_ACCEPT);
        y.addTerminal(1);
        Check.same("token(1)", y.token(1), true);
        Check.same("parse()", y.parse(), AdaptiveLlStar.PARSE_NOT_COMPILED);
        Check.same("addTerminal(2) to the current one", y.addTerminal(2), true);
        Check.same("compile()", y.compile(), AdaptiveLlStar.COMPILE_OK);
        Check.accepts(y, "abc", "A10-3^-1 a0-1^0 b1-2^0 c2-3^0");
    }
}
