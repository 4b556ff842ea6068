import java.util.function.ToLongBiFunction;

/** What the promises 12 to 16 say of every node getter alike. A boolean counts 1 or 0. */
final class Getter {
    private final String name;
    private final ToLongBiFunction<AdaptiveLlStar, Integer> getter;
    private final long nothing;

    Getter(String name, ToLongBiFunction<AdaptiveLlStar, Integer> getter, long nothing) {
        this.name = name;
        this.getter = getter;
        this.nothing = nothing;
    }

    void same(AdaptiveLlStar x, int node, long due) {
        Check.same(name + "(" + node + ")", getter.applyAsLong(x, node), due);
    }

    /** The answers at all nodes from 0 on, and nothing behind the last one. */
    void sameAll(AdaptiveLlStar x, long... dues) {
        Check.same("nodeCount()", x.nodeCount(), dues.length);
        for (int node = 0; node < dues.length; node++) {
            same(x, node, dues[node]);
        }
        same(x, dues.length, nothing);
        same(x, -1, nothing);
    }

    void belowZero() {
        for (String state : States.names()) {
            AdaptiveLlStar x = States.make(state);
            for (int node : Check.outside(0, Integer.MAX_VALUE)) {
                same(x, node, nothing);
            }
        }
    }

    void fromNodeCountOn() {
        AdaptiveLlStar x = new AdaptiveLlStar(12, 64);
        for (int nodes = 64; nodes >= 1; nodes--) {
            Check.compileTreeOf(x, nodes);
            Check.same("parse()", x.parse(), AdaptiveLlStar.PARSE_ACCEPT);
            for (int node = nodes; node <= 70; node++) {
                same(x, node, nothing);
            }
            for (int node : Check.outside(0, 64)) {
                same(x, node, nothing);
            }
        }
    }

    /** Where there is no tree, not even node 0 is in range, whatever stood there before. */
    void withoutTree() {
        for (String state : new String[] {"fresh", "smallest", "begun", "faulty", "compiled", "rejected", "too big"}) {
            nothingAnywhere(States.make(state));
        }
        AdaptiveLlStar x = Check.compiledWithin(12, 20, "A=BA", "A=", "B=h", "B=h", "B=p");
        String[] inputs = {"hhhhhhh", "hhhi", "i"};
        for (String tokens : inputs) {
            Check.same("parse()", Check.parse(x, "hphph"), AdaptiveLlStar.PARSE_ACCEPT);
            Check.same("parse() of " + tokens, Check.parse(x, tokens) == AdaptiveLlStar.PARSE_ACCEPT, false);
            nothingAnywhere(x);
        }
    }

    private void nothingAnywhere(AdaptiveLlStar x) {
        for (int node = -70; node <= 70; node++) {
            same(x, node, nothing);
        }
    }

    void changesNothing() {
        States.unchanged(name, x -> {
            for (int node = -2; node < 70; node++) {
                long first = getter.applyAsLong(x, node);
                same(x, node, first);
            }
            for (int node : Check.FAR) {
                getter.applyAsLong(x, node);
            }
        });
    }

    /** The tree stays readable when grammar and input have gone, and after a refused parse. */
    void keepsAnswers(long... dues) {
        AdaptiveLlStar x = sample();
        sameAll(x, dues);
        x.token(3);
        sameAll(x, dues);
        x.clearInput();
        sameAll(x, dues);
        x.beginAlt(5);
        x.addTerminal(1);
        sameAll(x, dues);
        Check.same("parse()", x.parse(), AdaptiveLlStar.PARSE_NOT_COMPILED);
        sameAll(x, dues);
        x.clearGrammar();
        sameAll(x, dues);
        Check.add(x, "A=");
        Check.same("compile()", x.compile(), AdaptiveLlStar.COMPILE_OK);
        sameAll(x, dues);
        Check.same("parse()", x.parse(), AdaptiveLlStar.PARSE_ACCEPT);
        Check.same("nodeCount()", x.nodeCount(), 1);
        same(x, 1, nothing);
    }

    /**
     * Its tree has the nodes A2, b, H3 (with a and the ambiguous H2, with a),
     * C1 (empty), p, C1 (empty, at the end).
     */
    static AdaptiveLlStar sample() {
        AdaptiveLlStar x = Check.compiled("A=p", "A=bHCpC", "H=", "H=a", "H=aH", "C=");
        Check.same("parse()", Check.parse(x, "baap"), AdaptiveLlStar.PARSE_ACCEPT);
        return x;
    }
}
