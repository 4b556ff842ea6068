/** Promise 8, sentence by sentence: clearInput. */
public final class Promise08Test {
    public static void main(String[] args) {
        sentence("empties the input, so n becomes 0", Promise08Test::empties);
        sentence("`token` can again append up to tokenLimit tokens", Promise08Test::givesAllRoomBack);
        sentence("Grammar (alternatives, current alternative, compiled flag) and result are untouched.",
                Promise08Test::keepsGrammarAndResult);
        sentence("`clearInput()` empties the input", Promise08Test::emptyAlready);
        Check.end();
    }

    private static void sentence(String words, Runnable test) {
        Check.sentence("Promise 8", words, test);
    }

    private static void empties() {
        for (int length = 0; length <= 12; length++) {
            AdaptiveLlStar x = Check.compiled("A=aA", "A=");
            Check.feed(x, "a".repeat(length));
            x.clearInput();
            Check.same("parse() after " + length + " tokens", x.parse(), AdaptiveLlStar.PARSE_ACCEPT);
            Check.same("result", Check.result(x), "0: A20-0^-1");
        }
        AdaptiveLlStar y = Check.compiled("A=ab");
        Check.accepts(y, "ab", "A10-2^-1 a0-1^0 b1-2^0");
        y.clearInput();
        Check.same("parse() of nothing", y.parse(), AdaptiveLlStar.PARSE_REJECT);
        Check.same("result", Check.result(y), "0: ");
        Check.feed(y, "a");
        Check.same("parse() of a part", y.parse(), AdaptiveLlStar.PARSE_REJECT);
        Check.same("result", Check.result(y), "1: ");
    }

    private static void givesAllRoomBack() {
        for (int limit = 1; limit <= 12; limit++) {
            AdaptiveLlStar x = new AdaptiveLlStar(limit, 64);
            for (int fed = 0; fed <= limit; fed++) {
                x.clearInput();
                Check.feed(x, "b".repeat(fed));
                Check.same("tokens taken with " + limit + " after " + fed, Check.room(x), limit);
            }
            Check.same("token too many", x.token(0), false);
        }
    }

    private static void keepsGrammarAndResult() {
        for (String state : States.names()) {
            AdaptiveLlStar x = States.make(state);
            String result = States.getters(x);
            String input = States.inputOf(States.make(state));
            x.clearInput();
            Check.same("result of the " + state + " one", States.getters(x), result);
            States.unchangedIn(new String[] {state}, "clearInput()", one -> {
                one.clearInput();
                Check.feed(one, input);
            });
        }
        AdaptiveLlStar y = Check.compiled("A=aA", "A=b");
        y.clearInput();
        Check.same("parse() without a new compile()", y.parse(), AdaptiveLlStar.PARSE_REJECT);
        y.addTerminal(2);
        y.clearInput();
        Check.same("parse()", y.parse(), AdaptiveLlStar.PARSE_NOT_COMPILED);
        Check.same("addTerminal(3) to the current one", y.addTerminal(3), true);
        Check.same("compile()", y.compile(), AdaptiveLlStar.COMPILE_OK);
        Check.accepts(y, "bcd", "A20-3^-1 b0-1^0 c1-2^0 d2-3^0");
    }

    private static void emptyAlready() {
        States.unchangedIn(new String[] {"fresh", "smallest"}, "clearInput()", x -> x.clearInput());
        AdaptiveLlStar x = Check.compiledWithin(2, 8, "A=aA", "A=");
        x.clearInput();
        x.clearInput();
        Check.accepts(x, "aa", "A10-2^-1 a0-1^0 A11-2^0 a1-2^2 A22-2^2");
        x.clearInput();
        x.clearInput();
        Check.accepts(x, "", "A20-0^-1");
        Check.same("tokens taken", Check.room(x), 2);
    }
}
