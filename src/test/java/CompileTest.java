/** Promise 6. */
public final class CompileTest {
    private static final int OK = AdaptiveLlStar.COMPILE_OK;
    private static final int NO_START = AdaptiveLlStar.COMPILE_NO_START;
    private static final int UNDEFINED = AdaptiveLlStar.COMPILE_UNDEFINED_RULE;
    private static final int UNPRODUCTIVE = AdaptiveLlStar.COMPILE_UNPRODUCTIVE;
    private static final int LEFT_RECURSIVE = AdaptiveLlStar.COMPILE_LEFT_RECURSIVE;

    public static void main(String[] args) {
        starts();
        undefinedRules();
        unproductiveRules();
        leftRecursion();
        firstFaultIsAnswered();
        goodGrammars();
        changesNothingElse();
        Check.end();
    }

    private static void compiles(int due, String... alts) {
        AdaptiveLlStar x = Check.grammar(alts);
        String grammar = String.join(" ", alts);
        int parsed = due == OK ? AdaptiveLlStar.PARSE_REJECT : AdaptiveLlStar.PARSE_NOT_COMPILED;
        x.token(15);
        for (int turn = 0; turn < 2; turn++) {
            Check.same("compile() of " + grammar, x.compile(), due);
            Check.same("parse() after compile() of " + grammar, x.parse(), parsed);
        }
    }

    private static void starts() {
        compiles(NO_START);
        compiles(NO_START, "B=a");
        compiles(NO_START, "B=", "C=a", "H=b");
        compiles(OK, "A=");
        compiles(OK, "B=a", "A=b");
    }

    private static void undefinedRules() {
        compiles(UNDEFINED, "A=B");
        compiles(UNDEFINED, "A=a", "A=aH");
        compiles(UNDEFINED, "A=a", "B=C");
        compiles(UNDEFINED, "A=a", "A=aaB", "C=");
        compiles(OK, "A=aH", "H=");
    }

    private static void unproductiveRules() {
        compiles(UNPRODUCTIVE, "A=aA");
        compiles(UNPRODUCTIVE, "A=a", "B=aB");
        compiles(UNPRODUCTIVE, "A=a", "A=bB", "B=cC", "C=cB");
        compiles(UNPRODUCTIVE, "A=aB", "B=aC", "C=aD", "D=aE", "E=aF", "F=aG", "G=aH", "H=aA");
        compiles(OK, "A=aB", "B=aC", "C=aD", "D=aE", "E=aF", "F=aG", "G=aH", "H=aA", "H=a");
        compiles(OK, "H=aG", "G=aF", "F=aE", "E=aD", "D=aC", "C=aB", "B=aA", "A=a");
        compiles(OK, "A=BB", "B=CC", "C=DD", "D=EE", "E=FF", "F=GG", "G=HH", "H=");
    }

    private static void leftRecursion() {
        compiles(LEFT_RECURSIVE, "A=Aa", "A=b");
        compiles(LEFT_RECURSIVE, "A=a", "A=A");
        compiles(LEFT_RECURSIVE, "A=Ba", "A=b", "B=Ac", "B=");
        compiles(LEFT_RECURSIVE, "A=a", "B=Bb", "B=c");
        compiles(LEFT_RECURSIVE, "A=B", "B=C", "C=D", "D=E", "E=F", "F=G", "G=H", "H=A", "H=a");
        compiles(LEFT_RECURSIVE, "A=H", "H=G", "G=F", "F=E", "E=D", "D=C", "C=B", "B=H", "B=a");
        compiles(LEFT_RECURSIVE, "A=BAa", "A=b", "B=");
        compiles(LEFT_RECURSIVE, "A=BCAa", "A=b", "B=CC", "C=", "C=c");
        compiles(LEFT_RECURSIVE, "A=BBBA", "A=", "B=C", "C=D", "D=");
        compiles(LEFT_RECURSIVE, "A=a", "A=CBa", "B=b", "B=CA", "C=c", "C=");
        compiles(LEFT_RECURSIVE, "A=a", "A=AA");
        compiles(LEFT_RECURSIVE, "A=BCa", "A=a", "B=Ab", "B=", "C=c");
    }

    private static void firstFaultIsAnswered() {
        compiles(NO_START, "B=C", "D=D");
        compiles(UNDEFINED, "A=AB");
        compiles(UNDEFINED, "A=a", "B=Bb", "C=H");
        compiles(UNPRODUCTIVE, "A=Aa");
        compiles(UNPRODUCTIVE, "A=A");
        compiles(UNPRODUCTIVE, "A=Aa", "A=b", "B=bB");
        compiles(LEFT_RECURSIVE, "A=Aa", "A=b", "B=b");
    }

    private static void goodGrammars() {
        compiles(OK, "A=aA", "A=");
        compiles(OK, "A=aAA", "A=b");
        compiles(OK, "A=BaA", "A=b", "B=");
        compiles(OK, "A=BA", "A=", "B=b");
        compiles(OK, "A=BBB", "B=CC", "C=", "C=cA");
        compiles(OK, "A=Bb", "A=Bc", "B=aB", "B=");
    }

    private static void changesNothingElse() {
        AdaptiveLlStar x = Check.compiled("A=aA", "A=aA", "A=");
        Check.accepts(x, "a", "A1!0-1^-1 a0-1^0 A31-1^0");
        Check.same("compile() again", x.compile(), OK);
        Check.same("result", Check.result(x), "1: A1!0-1^-1 a0-1^0 A31-1^0");
        Check.same("addRule to the current one", x.addRule(0), true);
        Check.same("compile() of a bad one", x.compile(), UNPRODUCTIVE);
        Check.same("result", Check.result(x), "1: A1!0-1^-1 a0-1^0 A31-1^0");
        Check.same("parse()", x.parse(), AdaptiveLlStar.PARSE_NOT_COMPILED);
        Check.add(x, "A=b");
        Check.same("compile()", x.compile(), LEFT_RECURSIVE);
        x.clearGrammar();
        Check.add(x, "A=aB");
        Check.same("compile()", x.compile(), UNDEFINED);
        Check.same("addTerminal to the current one", x.addTerminal(2), true);
        Check.add(x, "B=b");
        Check.same("compile()", x.compile(), OK);
        Check.same("addTerminal to the current one", x.addTerminal(3), true);
        Check.same("compile()", x.compile(), OK);
        Check.same("parse() of the kept input", x.parse(), AdaptiveLlStar.PARSE_REJECT);
        Check.same("result", Check.result(x), "1: ");
        Check.accepts(x, "abdc", "A10-4^-1 a0-1^0 B11-3^0 b1-2^2 d2-3^2 c3-4^0");
    }
}
