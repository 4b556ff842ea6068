/** Promise 2, sentence by sentence: clearGrammar. */
public final class Promise02Test {
    public static void main(String[] args) {
        sentence("removes every alternative", Promise02Test::removesAlternatives);
        sentence("leaves no current alternative", Promise02Test::noCurrentAlternative);
        sentence("clears the compiled flag", Promise02Test::clearsCompiled);
        sentence("Alternative numbering starts again at 1 for every rule.", Promise02Test::numbersFromOne);
        sentence("The input and the result (tree, marks, error position) are kept unchanged.",
                Promise02Test::keepsInputAndResult);
        sentence("Calling it when there are no alternatives still leaves the object in this state.",
                Promise02Test::withoutAlternatives);
        Check.end();
    }

    private static void sentence(String words, Runnable test) {
        Check.sentence("Promise 2", words, test);
    }

    private static void removesAlternatives() {
        AdaptiveLlStar x = States.make("full");
        x.clearGrammar();
        Check.same("compile()", x.compile(), AdaptiveLlStar.COMPILE_NO_START);
        Check.add(x, "A=B");
        Check.same("compile() without the old rule", x.compile(), AdaptiveLlStar.COMPILE_UNDEFINED_RULE);
        Check.add(x, "B=aC", "C=");
        Check.same("compile()", x.compile(), AdaptiveLlStar.COMPILE_OK);
        Check.accepts(x, "a", "A10-1^-1 B10-1^0 a0-1^1 C11-1^1");
        Check.rejects(x, "b", 0);
        Check.rejects(x, "", 0);
        for (int turn = 0; turn < 3; turn++) {
            x.clearGrammar();
            Check.add(x, States.fullGrammar());
            Check.same("beginAlt in a full grammar", x.beginAlt(0), false);
            Check.same("addTerminal in a full grammar", x.addTerminal(0), false);
        }
    }

    private static void noCurrentAlternative() {
        for (String state : States.names()) {
            AdaptiveLlStar x = States.make(state);
            x.clearGrammar();
            Check.same("addTerminal(0) on the " + state + " one", x.addTerminal(0), false);
            Check.same("addRule(0) on the " + state + " one", x.addRule(0), false);
            Check.same("addTerminal(15) on the " + state + " one", x.addTerminal(15), false);
            Check.same("addRule(7) on the " + state + " one", x.addRule(7), false);
        }
    }

    private static void clearsCompiled() {
        for (String state : States.names()) {
            AdaptiveLlStar x = States.make(state);
            x.clearGrammar();
            Check.same("parse() on the " + state + " one", x.parse(), AdaptiveLlStar.PARSE_NOT_COMPILED);
            Check.add(x, "A=");
            Check.same("parse() with a new grammar", x.parse(), AdaptiveLlStar.PARSE_NOT_COMPILED);
        }
    }

    private static void numbersFromOne() {
        AdaptiveLlStar x = new AdaptiveLlStar(12, 64);
        for (int turn = 0; turn < 3; turn++) {
            x.clearGrammar();
            Check.add(x, "A=BCDEFGH", "H=h", "G=g", "F=f", "E=e", "D=d", "C=c", "B=b", "B=i", "C=i", "D=i", "E=i",
                    "F=i", "G=i", "H=i", "A=i");
            Check.same("compile()", x.compile(), AdaptiveLlStar.COMPILE_OK);
            Check.accepts(x, "bcdefgh", "A10-7^-1 B10-1^0 b0-1^1 C11-2^0 c1-2^3 D12-3^0 d2-3^5 E13-4^0 e3-4^7"
                    + " F14-5^0 f4-5^9 G15-6^0 g5-6^11 H16-7^0 h6-7^13");
            Check.accepts(x, "iiiiiii", "A10-7^-1 B20-1^0 i0-1^1 C21-2^0 i1-2^3 D22-3^0 i2-3^5 E23-4^0 i3-4^7"
                    + " F24-5^0 i4-5^9 G25-6^0 i5-6^11 H26-7^0 i6-7^13");
            Check.accepts(x, "i", "A20-1^-1 i0-1^0");
        }
    }

    private static void keepsInputAndResult() {
        for (String state : States.names()) {
            AdaptiveLlStar x = States.make(state);
            String result = States.getters(x);
            x.clearGrammar();
            Check.same("result of the " + state + " one", States.getters(x), result);
            Check.same("input of the " + state + " one", States.inputOf(x), States.inputOf(States.make(state)));
        }
        AdaptiveLlStar x = Check.compiled("A=BB", "B=a", "B=a", "B=");
        Check.accepts(x, "a", "A10-1^-1 B1!0-1^0 a0-1^1 B31-1^0");
        Check.feed(x, "b");
        x.clearGrammar();
        Check.same("tree and marks", Check.result(x), "1: A10-1^-1 B1!0-1^0 a0-1^1 B31-1^0");
        Check.same("input", States.inputOf(x), "ab");
    }

    private static void withoutAlternatives() {
        String[] without = {"fresh", "smallest", "cleared"};
        States.unchangedIn(without, "clearGrammar()", x -> x.clearGrammar());
        States.unchangedIn(without, "clearGrammar() twice", x -> {
            x.clearGrammar();
            x.clearGrammar();
        });
        AdaptiveLlStar y = States.make("cleared");
        y.clearGrammar();
        Check.same("addTerminal(0)", y.addTerminal(0), false);
        Check.same("addRule(0)", y.addRule(0), false);
        Check.same("parse()", y.parse(), AdaptiveLlStar.PARSE_NOT_COMPILED);
        Check.same("compile()", y.compile(), AdaptiveLlStar.COMPILE_NO_START);
        Check.same("result", States.getters(y), States.getters(States.make("accepted")));
    }
}
