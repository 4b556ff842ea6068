/** Promise 6, sentence by sentence: compile. */
public final class Promise06Test {
    private static final int OK = AdaptiveLlStar.COMPILE_OK;
    private static final int NO_START = AdaptiveLlStar.COMPILE_NO_START;
    private static final int UNDEFINED = AdaptiveLlStar.COMPILE_UNDEFINED_RULE;
    private static final int UNPRODUCTIVE = AdaptiveLlStar.COMPILE_UNPRODUCTIVE;
    private static final int LEFT_RECURSIVE = AdaptiveLlStar.COMPILE_LEFT_RECURSIVE;

    public static void main(String[] args) {
        sentence("rule 0 is not defined -> `COMPILE_NO_START`", Promise06Test::noStart);
        sentence("some alternative contains a rule that is not defined -> `COMPILE_UNDEFINED_RULE`",
                Promise06Test::undefinedRule);
        sentence("some defined rule is not productive -> `COMPILE_UNPRODUCTIVE`", Promise06Test::unproductive);
        sentence("some defined rule is left-recursive -> `COMPILE_LEFT_RECURSIVE`", Promise06Test::leftRecursive);
        sentence("tests, over the current alternatives, in order, answering the first that holds",
                Promise06Test::firstThatHolds);
        sentence("tests, over the current alternatives", Promise06Test::currentAlternatives);
        sentence("When one of these is answered nothing changes; the compiled flag is then already clear.",
                Promise06Test::refusedChangesNothing);
        sentence("Otherwise it sets the compiled flag and answers `COMPILE_OK`", Promise06Test::setsCompiled);
        sentence("also when the flag was already set", Promise06Test::again);
        sentence("It never changes the alternatives, the current alternative, the input or the result.",
                Promise06Test::changesNothingElse);
        sentence("Rules that are not defined and not referenced play no part.", Promise06Test::rulesWithoutPart);
        Check.end();
    }

    private static void sentence(String words, Runnable test) {
        Check.sentence("Promise 6", words, test);
    }

    private static void compiles(int due, String... alts) {
        Check.same("compile() of " + String.join(" ", alts), Check.grammar(alts).compile(), due);
    }

    private static void noStart() {
        compiles(NO_START);
        for (char rule = 'B'; rule <= 'H'; rule++) {
            compiles(NO_START, rule + "=");
            compiles(NO_START, rule + "=a", rule + "=A");
        }
        compiles(NO_START, "B=", "C=a", "D=", "E=", "F=", "G=", "H=b");
    }

    private static void undefinedRule() {
        for (char rule = 'B'; rule <= 'H'; rule++) {
            compiles(UNDEFINED, "A=" + rule);
            compiles(UNDEFINED, "A=a", "A=ab" + rule);
            compiles(UNDEFINED, "A=", "A=a" + rule + "a", "A=b");
        }
        compiles(UNDEFINED, "A=a", "B=aC");
        compiles(UNDEFINED, "A=aB", "B=", "B=aH", "C=", "D=", "E=", "F=", "G=");
        compiles(UNDEFINED, "A=" + "a".repeat(47) + "B");
    }

    private static void unproductive() {
        compiles(UNPRODUCTIVE, "A=aA");
        compiles(UNPRODUCTIVE, "A=aA", "A=bAb", "A=cAcA");
        compiles(UNPRODUCTIVE, "A=", "H=hH");
        compiles(UNPRODUCTIVE, "A=a", "B=bC", "C=cB");
        compiles(UNPRODUCTIVE, "A=aB", "B=aC", "C=aD", "D=aE", "E=aF", "F=aG", "G=aH", "H=aA");
        compiles(OK, "A=aB", "B=aC", "C=aD", "D=aE", "E=aF", "F=aG", "G=aH", "H=aA", "H=");
        compiles(OK, "H=aG", "G=aF", "F=aE", "E=aD", "D=aC", "C=aB", "B=aA", "A=");
        compiles(OK, "A=aAA", "A=a");
    }

    private static void leftRecursive() {
        compiles(LEFT_RECURSIVE, "A=a", "A=A");
        compiles(LEFT_RECURSIVE, "A=", "A=Aa");
        compiles(LEFT_RECURSIVE, "A=a", "H=", "H=Hh");
        compiles(LEFT_RECURSIVE, "A=a", "B=Cb", "C=Bc", "C=c");
        compiles(LEFT_RECURSIVE, "A=B", "B=C", "C=D", "D=E", "E=F", "F=G", "G=H", "H=A", "H=a");
        compiles(LEFT_RECURSIVE, "H=G", "G=F", "F=E", "E=D", "D=C", "C=B", "B=A", "A=H", "A=a");
        compiles(LEFT_RECURSIVE, "A=a", "A=BCDEFGHA", "B=", "C=B", "D=BC", "E=", "F=EE", "G=", "H=G");
        compiles(OK, "A=a", "A=BCDEFGHA", "B=", "C=B", "D=BC", "E=", "F=EE", "G=", "H=h");
        compiles(OK, "A=aA", "A=");
        compiles(OK, "A=a", "A=BaA", "B=");
        compiles(OK, "A=B", "B=C", "C=D", "D=E", "E=F", "F=G", "G=H", "H=aA", "H=a");
    }

    // Every pair of faults, and all of them together.
    private static void firstThatHolds() {
        compiles(NO_START, "B=C");
        compiles(NO_START, "B=A");
        compiles(NO_START, "B=bB");
        compiles(NO_START, "B=b", "B=Bb");
        compiles(NO_START, "B=C", "D=dD", "E=e", "E=Ee");
        compiles(UNDEFINED, "A=a", "B=bB", "C=D");
        compiles(UNDEFINED, "A=a", "B=b", "B=Bb", "C=D");
        compiles(UNDEFINED, "A=B", "C=cC", "E=e", "E=Ee");
        compiles(UNDEFINED, "A=AB");
        compiles(UNPRODUCTIVE, "A=a", "B=Bb");
        compiles(UNPRODUCTIVE, "A=a", "A=Aa", "B=bB");
        compiles(UNPRODUCTIVE, "A=A");
        compiles(LEFT_RECURSIVE, "A=a", "A=A", "B=b");
    }

    private static void currentAlternatives() {
        AdaptiveLlStar x = new AdaptiveLlStar(12, 64);
        Check.same("compile() of nothing", x.compile(), NO_START);
        Check.add(x, "A=aB");
        Check.same("compile() without B", x.compile(), UNDEFINED);
        Check.add(x, "B=bB");
        Check.same("compile() with B alone", x.compile(), UNPRODUCTIVE);
        Check.add(x, "B=C", "C=B");
        Check.same("compile() with C", x.compile(), UNPRODUCTIVE);
        Check.add(x, "C=c");
        Check.same("compile() with a way out", x.compile(), LEFT_RECURSIVE);
        x.clearGrammar();
        Check.same("compile() of nothing again", x.compile(), NO_START);
        Check.add(x, "A=aB", "B=bB", "B=");
        Check.same("compile()", x.compile(), OK);
        x.addRule(1);
        Check.same("compile() with a rule more", x.compile(), UNPRODUCTIVE);
        Check.add(x, "B=");
        Check.same("compile() with an empty one more", x.compile(), LEFT_RECURSIVE);
    }

    private static void refusedChangesNothing() {
        String[][] grammars = {{"B=a"}, {"A=a", "A=bB"}, {"A=a", "A=aB", "B=bB"}, {"A=a", "A=Ab"}};
        for (String[] alts : grammars) {
            AdaptiveLlStar x = faulty(alts);
            int code = x.compile();
            Check.same("compile() is refused", code != OK, true);
            Check.same("parse() after it", x.parse(), AdaptiveLlStar.PARSE_NOT_COMPILED);
            Check.same("compile() again", x.compile(), code);
            Check.same("parse() after it", x.parse(), AdaptiveLlStar.PARSE_NOT_COMPILED);
            States.sameLooks("compile() of " + String.join(" ", alts), () -> {
                AdaptiveLlStar one = faulty(alts);
                one.compile();
                return one;
            }, () -> faulty(alts));
        }
        States.unchangedIn(new String[] {"fresh", "smallest", "faulty", "cleared"}, "a refused compile()",
                x -> Check.same("compile() is refused", x.compile() != OK, true));
    }

    private static AdaptiveLlStar faulty(String... alts) {
        AdaptiveLlStar x = States.make("accepted");
        x.clearGrammar();
        Check.add(x, alts);
        return x;
    }

    private static void setsCompiled() {
        AdaptiveLlStar x = Check.grammar("A=");
        Check.same("parse()", x.parse(), AdaptiveLlStar.PARSE_NOT_COMPILED);
        Check.same("compile()", x.compile(), OK);
        Check.same("parse()", x.parse(), AdaptiveLlStar.PARSE_ACCEPT);
        AdaptiveLlStar y = Check.grammar(States.fullGrammar());
        Check.same("parse()", y.parse(), AdaptiveLlStar.PARSE_NOT_COMPILED);
        Check.same("compile() of a full grammar", y.compile(), OK);
        Check.same("parse()", y.parse(), AdaptiveLlStar.PARSE_ACCEPT);
    }

    private static void again() {
        AdaptiveLlStar x = Check.compiled("A=aA", "A=");
        for (int turn = 0; turn < 3; turn++) {
            Check.same("compile() again", x.compile(), OK);
            Check.accepts(x, "a", "A10-1^-1 a0-1^0 A21-1^0");
        }
        States.unchangedIn(new String[] {"compiled", "accepted", "rejected", "too big", "full", "alternatives full",
            "symbols full", "input full"}, "compile() again", one -> Check.same("compile() again", one.compile(), OK));
    }

    private static void changesNothingElse() {
        for (String state : States.names()) {
            AdaptiveLlStar x = States.make(state);
            String result = States.getters(x);
            x.compile();
            Check.same("result of the " + state + " one", States.getters(x), result);
            States.sameGrammarAndInput("compile() on the " + state + " one", () -> {
                AdaptiveLlStar one = States.make(state);
                one.compile();
                return one;
            }, () -> States.make(state));
        }
        AdaptiveLlStar z = Check.grammar("A=aB", "B=b");
        Check.same("compile()", z.compile(), OK);
        Check.same("addTerminal(2) to the current one", z.addTerminal(2), true);
        Check.same("compile()", z.compile(), OK);
        Check.accepts(z, "abc", "A10-3^-1 a0-1^0 B11-3^0 b1-2^2 c2-3^2");
    }

    private static void rulesWithoutPart() {
        compiles(OK, "A=");
        compiles(OK, "A=a");
        compiles(OK, "A=H", "H=");
        compiles(OK, "A=aD", "D=dA", "D=");
        compiles(LEFT_RECURSIVE, "A=aD", "D=Dd", "D=");
    }
}
