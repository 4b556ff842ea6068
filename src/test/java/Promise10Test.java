/** Promise 10, sentence by sentence: errorPosition. */
public final class Promise10Test {
    public static void main(String[] args) {
        sentence("0 on a fresh object", Promise10Test::fresh);
        sentence("the value set by the last parse that was not refused", Promise10Test::lastParse);
        sentence("the value set by the last parse that was not refused", Promise10Test::refusedParse);
        sentence("the value set by the last parse that was not refused", Promise10Test::otherCalls);
        sentence("It changes nothing.", Promise10Test::changesNothing);
        Check.end();
    }

    private static void sentence(String words, Runnable test) {
        Check.sentence("Promise 10", words, test);
    }

    private static void fresh() {
        AdaptiveLlStar x = new AdaptiveLlStar(12, 64);
        Check.same("errorPosition()", x.errorPosition(), 0);
        Check.feed(x, "ab");
        Check.add(x, "A=a");
        Check.same("compile()", x.compile(), AdaptiveLlStar.COMPILE_OK);
        Check.same("errorPosition() before the first parse", x.errorPosition(), 0);
        Check.same("parse()", x.parse(), AdaptiveLlStar.PARSE_REJECT);
        Check.same("errorPosition()", x.errorPosition(), 1);
    }

    private static void lastParse() {
        AdaptiveLlStar x = Check.compiledWithin(12, 9, "A=aA", "A=b");
        Check.same("parse()", Check.parse(x, "aab"), AdaptiveLlStar.PARSE_ACCEPT);
        Check.same("errorPosition() after accepting three", x.errorPosition(), 3);
        Check.same("parse()", Check.parse(x, "ac"), AdaptiveLlStar.PARSE_REJECT);
        Check.same("errorPosition() after rejecting the second", x.errorPosition(), 1);
        Check.same("parse()", Check.parse(x, "aaaaab"), AdaptiveLlStar.PARSE_TOO_BIG);
        Check.same("errorPosition() after six in a tree too big", x.errorPosition(), 6);
        Check.same("parse()", Check.parse(x, "aaaaaaaaaaaa"), AdaptiveLlStar.PARSE_REJECT);
        Check.same("errorPosition() after twelve", x.errorPosition(), 12);
        Check.same("parse()", Check.parse(x, ""), AdaptiveLlStar.PARSE_REJECT);
        Check.same("errorPosition() after none", x.errorPosition(), 0);
        Check.same("parse()", Check.parse(x, "b"), AdaptiveLlStar.PARSE_ACCEPT);
        Check.same("errorPosition() after accepting one", x.errorPosition(), 1);
        Check.same("parse()", Check.parse(x, "c"), AdaptiveLlStar.PARSE_REJECT);
        Check.same("errorPosition() after rejecting the first", x.errorPosition(), 0);
    }

    private static void refusedParse() {
        AdaptiveLlStar x = Check.compiled("A=aA", "A=b");
        Check.rejects(x, "aac", 2);
        x.beginAlt(0);
        x.clearInput();
        Check.same("parse()", x.parse(), AdaptiveLlStar.PARSE_NOT_COMPILED);
        Check.same("errorPosition() after a refused parse", x.errorPosition(), 2);
        x.clearGrammar();
        Check.same("parse()", x.parse(), AdaptiveLlStar.PARSE_NOT_COMPILED);
        Check.same("errorPosition() after another", x.errorPosition(), 2);
    }

    private static void otherCalls() {
        AdaptiveLlStar x = Check.compiled("A=aA", "A=b");
        Check.rejects(x, "aac", 2);
        x.token(0);
        Check.same("errorPosition() after token", x.errorPosition(), 2);
        x.clearInput();
        Check.same("errorPosition() after clearInput", x.errorPosition(), 2);
        x.addTerminal(0);
        x.addRule(0);
        Check.same("errorPosition() after addRule", x.errorPosition(), 2);
        x.compile();
        Check.same("errorPosition() after compile", x.errorPosition(), 2);
        x.beginAlt(0);
        Check.same("errorPosition() after beginAlt", x.errorPosition(), 2);
        x.clearGrammar();
        Check.same("errorPosition() after clearGrammar", x.errorPosition(), 2);
        x.compile();
        Check.same("errorPosition() after a refused compile", x.errorPosition(), 2);
    }

    private static void changesNothing() {
        States.unchanged("errorPosition()", x -> {
            int first = x.errorPosition();
            Check.same("errorPosition() again", x.errorPosition(), first);
        });
    }
}
