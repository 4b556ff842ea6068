/** Promises 7 and 8: token, clearInput. */
public final class InputTest {
    public static void main(String[] args) {
        tokenRefusesWrongTypes();
        tokenTakesEveryType();
        tokenRefusesBeyondTheLimit();
        tokenTouchesNothingElse();
        clearInputEmptiesTheInput();
        clearInputTouchesNothingElse();
        Check.end();
    }

    private static void tokenRefusesWrongTypes() {
        AdaptiveLlStar x = Check.compiledWithin(2, 64, "A=a");
        int[] wrongs = {-1, 16, 17, -16, 1 << 16, 256, Integer.MAX_VALUE, Integer.MIN_VALUE};
        Check.feed(x, "a");
        for (int t : wrongs) {
            Check.same("token(" + t + ")", x.token(t), false);
            Check.same("parse()", x.parse(), AdaptiveLlStar.PARSE_ACCEPT);
            Check.same("result", Check.result(x), "1: A10-1^-1 a0-1^0");
        }
        Check.same("a token after the refused ones", x.token(0), true);
        Check.same("a token too many", x.token(0), false);
    }

    private static void tokenTakesEveryType() {
        AdaptiveLlStar x = Check.compiled("A=BA", "A=", "B=a", "B=b", "B=c", "B=d", "B=e", "B=h",
                "B=i", "B=l", "B=m", "B=n", "B=o", "B=p");
        String tokens = "abcdehilmnop";
        Check.same("parse()", Check.parse(x, tokens), AdaptiveLlStar.PARSE_ACCEPT);
        StringBuilder read = new StringBuilder();
        for (int node = 0; node < x.nodeCount(); node++) {
            if (x.nodeAlt(node) == 0) {
                Check.same("nodeStart(" + node + ")", x.nodeStart(node), read.length());
                read.append((char) ('a' + x.nodeSymbol(node)));
            }
        }
        Check.same("the token nodes", read.toString(), tokens);
        for (int t = 0; t < 16; t++) {
            x.clearInput();
            Check.same("token(" + t + ")", x.token(t), true);
        }
    }

    private static void tokenRefusesBeyondTheLimit() {
        for (int limit = 1; limit <= 12; limit++) {
            AdaptiveLlStar x = Check.compiledWithin(limit, 64, "A=aA", "A=");
            Check.feed(x, "a".repeat(limit));
            Check.same("a token too many", x.token(0), false);
            Check.same("another", x.token(1), false);
            Check.same("a wrong one", x.token(16), false);
            Check.same("parse()", x.parse(), AdaptiveLlStar.PARSE_ACCEPT);
            Check.same("nodeEnd(0)", x.nodeEnd(0), limit);
        }
    }

    private static void tokenTouchesNothingElse() {
        AdaptiveLlStar x = Check.compiled("A=aA", "A=aA", "A=");
        Check.accepts(x, "a", "A1!0-1^-1 a0-1^0 A31-1^0");
        Check.same("token(5)", x.token(5), true);
        Check.same("result", Check.result(x), "1: A1!0-1^-1 a0-1^0 A31-1^0");
        Check.same("parse() without a new compile()", x.parse(), AdaptiveLlStar.PARSE_REJECT);
        Check.same("result", Check.result(x), "1: ");
        Check.same("token(5)", x.token(5), true);
        Check.same("result", Check.result(x), "1: ");
        Check.same("addTerminal to the current one", x.addTerminal(5), true);
        Check.same("token(5)", x.token(5), true);
        Check.same("parse()", x.parse(), AdaptiveLlStar.PARSE_NOT_COMPILED);
    }

    private static void clearInputEmptiesTheInput() {
        AdaptiveLlStar x = Check.compiledWithin(3, 64, "A=aA", "A=bA", "A=");
        Check.accepts(x, "aaa", "A10-3^-1 a0-1^0 A11-3^0 a1-2^2 A12-3^2 a2-3^4 A33-3^4");
        x.clearInput();
        Check.same("parse() of nothing", x.parse(), AdaptiveLlStar.PARSE_ACCEPT);
        Check.same("result", Check.result(x), "0: A30-0^-1");
        Check.feed(x, "bab");
        Check.same("a token too many", x.token(0), false);
        Check.same("parse()", x.parse(), AdaptiveLlStar.PARSE_ACCEPT);
        Check.same("result", Check.result(x), "3: A20-3^-1 b0-1^0 A11-3^0 a1-2^2 A22-3^2 b2-3^4 A33-3^4");
        x.clearInput();
        x.clearInput();
        Check.accepts(x, "b", "A20-1^-1 b0-1^0 A31-1^0");
    }

    private static void clearInputTouchesNothingElse() {
        AdaptiveLlStar x = Check.compiled("A=aA", "A=aA", "A=");
        Check.accepts(x, "a", "A1!0-1^-1 a0-1^0 A31-1^0");
        x.clearInput();
        Check.same("result", Check.result(x), "1: A1!0-1^-1 a0-1^0 A31-1^0");
        Check.same("parse() without a new compile()", x.parse(), AdaptiveLlStar.PARSE_ACCEPT);
        Check.rejects(x, "ab", 1);
        x.clearInput();
        Check.same("result", Check.result(x), "1: ");
        Check.same("addTerminal to the current one", x.addTerminal(1), true);
        x.clearInput();
        Check.same("parse()", x.parse(), AdaptiveLlStar.PARSE_NOT_COMPILED);
    }
}
