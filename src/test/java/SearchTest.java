import java.util.List;

/**
 * Promises 6 and 9 to 16 on made-up grammars and inputs, each answer against a
 * plain search through all leftmost derivations. One object lives through all
 * cases, beside a new one for each case: the past must make no difference.
 */
public final class SearchTest {
    private static final int GRAMMARS = 12000;
    private static final int INPUTS = 12;
    private static final int[][] LIMITS = {{12, 64}, {12, 8}, {9, 30}, {12, 64}, {6, 16}, {1, 9}};

    private static final MadeUp MADE_UP = new MadeUp(20261115);
    private static final int[] COMPILE_CODES = new int[5];
    private static final int[] PARSE_CODES = new int[4];
    private static int marked = 0;
    private static int givenUp = 0;

    public static void main(String[] args) {
        AdaptiveLlStar[] old = new AdaptiveLlStar[LIMITS.length];
        for (int i = 0; i < LIMITS.length; i++) {
            old[i] = new AdaptiveLlStar(LIMITS[i][0], LIMITS[i][1]);
        }
        for (int i = 0; i < GRAMMARS; i++) {
            int k = i % LIMITS.length;
            tryGrammar(MADE_UP.grammar(), old[k], LIMITS[k][0], LIMITS[k][1]);
        }
        enough();
        Check.end();
    }

    // A test that never comes to an answer would not see it broken.
    private static void enough() {
        for (int code = 0; code < 5; code++) {
            Check.same("compile() often answers " + code, COMPILE_CODES[code] >= 40, true);
        }
        for (int code = 0; code < 3; code++) {
            Check.same("parse() often answers " + code, PARSE_CODES[code] >= 400, true);
        }
        Check.same("ambiguous nodes are often met", marked >= 400, true);
        int searched = PARSE_CODES[0] + PARSE_CODES[1] + PARSE_CODES[2];
        Check.same("few searches are given up", givenUp * 20 < searched, true);
    }

    private static void tryGrammar(List<String> alts, AdaptiveLlStar old, int tokenLimit, int nodeLimit) {
        old.clearGrammar();
        Check.add(old, alts.toArray(new String[0]));
        PlainParser plain = new PlainParser(alts);
        int due = plain.compileCode();
        COMPILE_CODES[due]++;
        String before = Check.result(old);
        Check.same("compile() of " + alts, old.compile(), due);
        Check.same("result after compile() of " + alts, Check.result(old), before);
        if (due != AdaptiveLlStar.COMPILE_OK) {
            Check.same("parse() with " + alts, old.parse(), AdaptiveLlStar.PARSE_NOT_COMPILED);
            Check.same("result after it", Check.result(old), before);
            return;
        }
        for (int i = 0; i < INPUTS; i++) {
            String tokens = MADE_UP.input(alts, tokenLimit);
            AdaptiveLlStar fresh = Check.compiledWithin(tokenLimit, nodeLimit, alts.toArray(new String[0]));
            String what = alts + " on '" + tokens + "' with " + tokenLimit + ", " + nodeLimit;
            int code = Check.parse(old, tokens);
            Check.same("parse() of a new one for " + what, Check.parse(fresh, tokens), code);
            Check.same("result of a new one for " + what, Check.result(fresh), Check.result(old));
            Check.nothingOutOfRange(old);
            if (plain.parse(tokens, nodeLimit)) {
                PARSE_CODES[plain.code()]++;
                Check.same("parse() for " + what, code, plain.code());
                Check.same("result for " + what, Check.result(old), plain.result());
            } else {
                givenUp++;
            }
        }
        marked += plain.marked();
    }
}
