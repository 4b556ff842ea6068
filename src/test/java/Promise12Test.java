/** Promise 12, sentence by sentence: nodeSymbol. */
public final class Promise12Test {
    private static final Getter SYMBOL = new Getter("nodeSymbol", (x, node) -> x.nodeSymbol(node), -1);

    public static void main(String[] args) {
        sentence("node is out of range when node < 0", SYMBOL::belowZero);
        sentence("or node >= `nodeCount()`", SYMBOL::fromNodeCountOn);
        sentence("all node getters change nothing", SYMBOL::changesNothing);
        sentence("out of range -> -1", SYMBOL::withoutTree);
        sentence("rule node -> its rule (0..7)", Promise12Test::rules);
        sentence("token node -> its terminal type (0..15)", Promise12Test::terminals);
        sentence("rule node -> its rule (0..7); token node -> its terminal type (0..15)", Promise12Test::keeps);
        Check.end();
    }

    private static void sentence(String words, Runnable test) {
        Check.sentence("Promise 12", words, test);
    }

    private static void rules() {
        AdaptiveLlStar x = Check.compiled("A=BCDEFGHhA", "A=", "B=", "C=", "D=", "E=", "F=", "G=", "H=");
        Check.same("parse()", Check.parse(x, "h"), AdaptiveLlStar.PARSE_ACCEPT);
        SYMBOL.sameAll(x, 0, 1, 2, 3, 4, 5, 6, 7, 7, 0);
    }

    private static void terminals() {
        for (int t = 0; t < 16; t++) {
            char terminal = (char) ('a' + t);
            AdaptiveLlStar x = Check.compiled("A=H" + terminal, "H=" + terminal);
            Check.same("parse()", Check.parse(x, terminal + "" + terminal), AdaptiveLlStar.PARSE_ACCEPT);
            SYMBOL.sameAll(x, 0, 7, t, t);
        }
    }

    private static void keeps() {
        SYMBOL.keepsAnswers(0, 1, 7, 0, 7, 0, 2, 15, 2);
    }
}
