import java.util.ArrayList;
import java.util.List;

/**
 * Promises 1 to 16 on long made-up runs of calls, right and wrong ones in any
 * order. Beside each object the state is kept as the document tells it, and
 * after every call its answer and all getters are compared.
 */
public final class RunsTest {
    private static final int RUNS = 4000;
    private static final int CALLS = 150;
    private static final MadeUp MADE_UP = new MadeUp(15112026);
    private static final int[] PARSE_CODES = new int[4];
    private static int refused = 0;
    private static int givenUp = 0;

    private final AdaptiveLlStar x;
    private final int tokenLimit;
    private final int nodeLimit;
    private final List<String> alts = new ArrayList<>();
    private boolean compiled = false;
    private String tokens = "";
    private String result = "0: ";
    private final StringBuilder calls = new StringBuilder();

    private RunsTest(int tokenLimit, int nodeLimit) {
        x = new AdaptiveLlStar(tokenLimit, nodeLimit);
        this.tokenLimit = Math.max(1, Math.min(12, tokenLimit));
        this.nodeLimit = Math.max(8, Math.min(64, nodeLimit));
        calls.append("new AdaptiveLlStar(").append(tokenLimit).append(", ").append(nodeLimit).append(")");
    }

    public static void main(String[] args) {
        for (int i = 0; i < RUNS; i++) {
            int tokenLimit = -2 + MADE_UP.pick(17);
            int nodeLimit = MADE_UP.pick(2) == 0 ? -2 + MADE_UP.pick(20) : 4 * MADE_UP.pick(18);
            new RunsTest(tokenLimit, nodeLimit).run();
        }
        for (int code = 0; code < 4; code++) {
            Check.same("parse() often answers " + code, PARSE_CODES[code] >= 400, true);
        }
        Check.same("calls are often refused", refused >= 4000, true);
        int searched = PARSE_CODES[0] + PARSE_CODES[1] + PARSE_CODES[2];
        Check.same("few searches are given up", givenUp * 20 < searched, true);
        Check.end();
    }

    private void run() {
        for (int i = 0; i < CALLS; i++) {
            // Most edits spoil a grammar, so that it needs a new one often.
            int kind = MADE_UP.pick(!compiled && MADE_UP.pick(4) == 0 ? 2 : 100);
            if (kind < 2) {
                newGrammar();
            } else if (kind < 3) {
                clearGrammar();
            } else if (kind < 8) {
                beginAlt(number(8));
            } else if (kind < 14) {
                addTerminal(MADE_UP.pick(3) > 0 ? MADE_UP.pick(3) : number(16));
            } else if (kind < 18) {
                addRule(number(8));
            } else if (kind < 32) {
                compile();
            } else if (kind < 50) {
                token(MADE_UP.pick(3) > 0 ? MADE_UP.pick(3) : number(16));
            } else if (kind < 65) {
                newInput();
            } else if (kind < 68) {
                clearInput();
            } else {
                parse();
            }
        }
    }

    /** Mostly below the bound, and else around it or far from it. */
    private static int number(int bound) {
        int kind = MADE_UP.pick(12);
        if (kind == 0) {
            return Check.FAR[MADE_UP.pick(Check.FAR.length)];
        }
        return kind == 1 ? -1 + MADE_UP.pick(2) * (bound + 1) : MADE_UP.pick(bound);
    }

    private void same(String call, long got, long due) {
        calls.append(", ").append(call);
        if (got != due) {
            Check.same(calls.toString(), got, due);
        }
        String seen = Check.result(x);
        if (!seen.equals(result)) {
            Check.same("result after " + calls, seen, result);
        }
        Check.nothingAt(x, -1);
        Check.nothingAt(x, x.nodeCount());
    }

    private void same(String call, boolean got, boolean due) {
        refused += due ? 0 : 1;
        same(call, got ? 1 : 0, due ? 1 : 0);
    }

    private void newGrammar() {
        List<String> made = MADE_UP.grammar();
        clearGrammar();
        for (String alt : made) {
            beginAlt(alt.charAt(0) - 'A');
            for (char symbol : alt.substring(2).toCharArray()) {
                if (Character.isUpperCase(symbol)) {
                    addRule(symbol - 'A');
                } else {
                    addTerminal(symbol - 'a');
                }
            }
        }
        compile();
    }

    private void newInput() {
        boolean canBeRead = new PlainParser(alts).compileCode() == AdaptiveLlStar.COMPILE_OK;
        String made = canBeRead ? MADE_UP.input(alts, 12) : "ab";
        clearInput();
        for (char type : made.toCharArray()) {
            token(type - 'a');
        }
        parse();
    }

    private void clearInput() {
        x.clearInput();
        tokens = "";
        same("clearInput()", 0, 0);
    }

    private void clearGrammar() {
        x.clearGrammar();
        alts.clear();
        compiled = false;
        same("clearGrammar()", 0, 0);
    }

    private void beginAlt(int rule) {
        boolean due = rule >= 0 && rule < 8 && alts.size() < 16;
        if (due) {
            alts.add((char) ('A' + rule) + "=");
            compiled = false;
        }
        same("beginAlt(" + rule + ")", x.beginAlt(rule), due);
    }

    private boolean hasRoom() {
        int symbols = 0;
        for (String alt : alts) {
            symbols += alt.length() - 2;
        }
        return !alts.isEmpty() && symbols < 48;
    }

    private void append(char symbol) {
        int last = alts.size() - 1;
        alts.set(last, alts.get(last) + symbol);
        compiled = false;
    }

    private void addTerminal(int t) {
        boolean due = t >= 0 && t < 16 && hasRoom();
        if (due) {
            append((char) ('a' + t));
        }
        same("addTerminal(" + t + ")", x.addTerminal(t), due);
    }

    private void addRule(int rule) {
        boolean due = rule >= 0 && rule < 8 && hasRoom();
        if (due) {
            append((char) ('A' + rule));
        }
        same("addRule(" + rule + ")", x.addRule(rule), due);
    }

    private void compile() {
        int due = new PlainParser(alts).compileCode();
        compiled = due == AdaptiveLlStar.COMPILE_OK;
        same("compile()", x.compile(), due);
    }

    private void token(int t) {
        boolean due = t >= 0 && t < 16 && tokens.length() < tokenLimit;
        if (due) {
            tokens += (char) ('a' + t);
        }
        same("token(" + t + ")", x.token(t), due);
    }

    private void parse() {
        int due = AdaptiveLlStar.PARSE_NOT_COMPILED;
        int got = x.parse();
        if (compiled) {
            PlainParser plain = new PlainParser(alts);
            if (plain.parse(tokens, nodeLimit)) {
                due = plain.code();
                result = plain.result();
            } else {
                givenUp++;
                due = got;
                result = Check.result(x);
            }
        }
        PARSE_CODES[due]++;
        same("parse()", got, due);
    }
}
