import java.util.ArrayList;
import java.util.LinkedHashMap;
import java.util.List;
import java.util.Map;
import java.util.function.BiConsumer;
import java.util.function.Consumer;
import java.util.function.Supplier;

/**
 * Objects in the states that the document tells apart, and a look at all that
 * can be seen of one. As a look spoils the object, each is made anew, and a
 * call is judged by looks at an object with it and at one without it.
 */
final class States {
    private static final Map<String, Supplier<AdaptiveLlStar>> ALL = new LinkedHashMap<>();
    private static final List<String> INPUTS = inputs();

    static {
        ALL.put("fresh", () -> new AdaptiveLlStar(12, 64));
        ALL.put("smallest", () -> new AdaptiveLlStar(1, 8));
        ALL.put("begun", States::begun);
        ALL.put("faulty", States::faulty);
        ALL.put("compiled", () -> fed(Check.compiled("A=bA", "A=aB", "B=", "B=b"), "ab"));
        ALL.put("accepted", States::accepted);
        ALL.put("rejected", States::rejected);
        ALL.put("too big", States::tooBig);
        ALL.put("edited", States::edited);
        ALL.put("cleared", States::cleared);
        ALL.put("full", States::full);
        ALL.put("full and edited", States::fullAndEdited);
        ALL.put("alternatives full", States::alternativesFull);
        ALL.put("symbols full", States::symbolsFull);
        ALL.put("input full", States::inputFull);
    }

    private States() {
    }

    private static AdaptiveLlStar fed(AdaptiveLlStar x, String tokens) {
        x.clearInput();
        Check.feed(x, tokens);
        return x;
    }

    private static AdaptiveLlStar begun() {
        return fed(Check.grammar("A=a", "B=cA", "A=Bb"), "ca");
    }

    private static AdaptiveLlStar faulty() {
        AdaptiveLlStar x = fed(Check.grammar("A=aB", "A=bAC"), "a");
        Check.same("compile()", x.compile(), AdaptiveLlStar.COMPILE_UNDEFINED_RULE);
        return x;
    }

    /** With marks, and with an input that is not the one of the result. */
    private static AdaptiveLlStar accepted() {
        AdaptiveLlStar x = Check.compiled("A=BA", "A=", "B=a", "B=a", "B=ab");
        Check.same("parse()", Check.parse(x, "aab"), AdaptiveLlStar.PARSE_ACCEPT);
        return fed(x, "aba");
    }

    private static AdaptiveLlStar rejected() {
        AdaptiveLlStar x = Check.compiledWithin(3, 20, "A=aAb", "A=c");
        Check.same("parse()", Check.parse(x, "acc"), AdaptiveLlStar.PARSE_REJECT);
        return fed(x, "ac");
    }

    private static AdaptiveLlStar tooBig() {
        AdaptiveLlStar x = Check.compiledWithin(5, 8, "A=aA", "A=bA", "A=");
        Check.same("parse()", Check.parse(x, "abab"), AdaptiveLlStar.PARSE_TOO_BIG);
        return fed(x, "ba");
    }

    private static AdaptiveLlStar edited() {
        AdaptiveLlStar x = accepted();
        Check.add(x, "B=c");
        return x;
    }

    private static AdaptiveLlStar cleared() {
        AdaptiveLlStar x = accepted();
        x.clearGrammar();
        return x;
    }

    /** With no room for an alternative, a symbol or a token. */
    private static AdaptiveLlStar full() {
        AdaptiveLlStar x = Check.compiled(fullGrammar());
        Check.same("parse()", Check.parse(x, "abcabcabcabc"), AdaptiveLlStar.PARSE_ACCEPT);
        return x;
    }

    private static AdaptiveLlStar fullAndEdited() {
        AdaptiveLlStar x = full();
        x.clearGrammar();
        Check.add(x, fullGrammar());
        return x;
    }

    private static AdaptiveLlStar alternativesFull() {
        AdaptiveLlStar x = Check.compiled("A=B", "A=aB", "A=bB", "A=cB", "B=", "B=a", "B=b", "B=c", "C=", "D=", "E=",
                "F=", "G=", "H=", "H=a", "B=ab");
        Check.same("parse()", Check.parse(x, "ab"), AdaptiveLlStar.PARSE_ACCEPT);
        return x;
    }

    private static AdaptiveLlStar symbolsFull() {
        AdaptiveLlStar x = Check.compiled("A=bB", "B=", "C=" + "a".repeat(40), "A=aBacBc");
        Check.same("parse()", Check.parse(x, "aacb"), AdaptiveLlStar.PARSE_REJECT);
        return x;
    }

    private static AdaptiveLlStar inputFull() {
        AdaptiveLlStar x = Check.compiledWithin(3, 20, "A=aA", "A=b", "A=ba");
        Check.same("parse()", Check.parse(x, "aba"), AdaptiveLlStar.PARSE_ACCEPT);
        return x;
    }

    static String[] fullGrammar() {
        return new String[] {"A=BCDA", "A=", "B=a", "B=b", "B=c", "C=b", "C=aE", "C=", "D=c", "D=abc", "E=a", "E=F",
            "F=b", "G=aaaaaaaaaaaaaaaa", "H=bbbbbbbbbbb", "H=cccc"};
    }

    private static List<String> inputs() {
        List<String> made = new ArrayList<>(List.of(""));
        for (int i = 0; i < 13; i++) {
            made.add(made.get(i) + "a");
            made.add(made.get(i) + "b");
            made.add(made.get(i) + "c");
        }
        return made;
    }

    /** The call leaves an object in each of the states as it was. */
    static void unchanged(String call, Consumer<AdaptiveLlStar> made) {
        unchangedIn(ALL.keySet().toArray(new String[0]), call, made);
    }

    static void unchangedIn(String[] states, String call, Consumer<AdaptiveLlStar> made) {
        for (String state : states) {
            Supplier<AdaptiveLlStar> without = ALL.get(state);
            sameLooks(call + " on the " + state + " one", () -> {
                AdaptiveLlStar x = without.get();
                made.accept(x);
                return x;
            }, without);
        }
    }

    static AdaptiveLlStar make(String state) {
        return ALL.get(state).get();
    }

    static List<String> names() {
        return new ArrayList<>(ALL.keySet());
    }

    /** Each look begins with another part of the state, as it may spoil the other parts. */
    static void sameLooks(String what, Supplier<AdaptiveLlStar> made, Supplier<AdaptiveLlStar> due) {
        sameLook(what, States::lookAtResult, made, due);
        sameGrammarAndInput(what, made, due);
    }

    /** The same but for the compiled flag and the result. */
    static void sameGrammarAndInput(String what, Supplier<AdaptiveLlStar> made, Supplier<AdaptiveLlStar> due) {
        sameLook(what, States::lookAtCurrent, made, due);
        sameLook(what, States::lookAtAlternatives, made, due);
        sameLook(what, States::lookAtInput, made, due);
        sameLook(what, States::lookAtRoom, made, due);
    }

    private static void sameLook(String what, BiConsumer<AdaptiveLlStar, List<String>> look,
            Supplier<AdaptiveLlStar> made, Supplier<AdaptiveLlStar> due) {
        List<String> seen = new ArrayList<>();
        List<String> expected = new ArrayList<>();
        look.accept(made.get(), seen);
        look.accept(due.get(), expected);
        for (int i = 0; i < expected.size(); i++) {
            if (!seen.get(i).equals(expected.get(i))) {
                Check.same("a look after " + what, seen.get(i), expected.get(i));
                return;
            }
        }
    }

    private static void lookAtResult(AdaptiveLlStar x, List<String> seen) {
        seen.add("getters: " + getters(x));
        seen.add("parse() before compile(): " + x.parse() + " " + getters(x));
        seen.add("compile(): " + x.compile() + " " + getters(x));
        seen.add("parse() after it: " + x.parse() + " " + getters(x));
    }

    private static void lookAtCurrent(AdaptiveLlStar x, List<String> seen) {
        seen.add("addTerminal(1): " + x.addTerminal(1));
        seen.add("addRule(0): " + x.addRule(0));
        lookAtGrammar(x, "the grammar with two symbols more", seen);
        lookAtAlternatives(x, seen);
    }

    private static void lookAtAlternatives(AdaptiveLlStar x, List<String> seen) {
        lookAtGrammar(x, "the grammar", seen);
        // Makes every rule defined and productive, so that more of a faulty grammar is seen.
        for (int rule = 0; rule < 8; rule++) {
            seen.add("beginAlt(" + rule + "): " + x.beginAlt(rule) + " addTerminal(2): " + x.addTerminal(2));
        }
        lookAtGrammar(x, "the grammar with all rules", seen);
    }

    private static void lookAtInput(AdaptiveLlStar x, List<String> seen) {
        seen.add("input: " + inputOf(x));
        int room = 0;
        while (room < 20 && x.token(0)) {
            room++;
        }
        seen.add("tokens taken: " + room);
        seen.add("parse() of the full input: " + x.parse() + " " + getters(x));
        seen.add("tokens taken by an empty one: " + Check.room(x));
    }

    private static void lookAtRoom(AdaptiveLlStar x, List<String> seen) {
        seen.add("symbols taken: " + takenSymbols(x));
        seen.add("beginAlt(4): " + x.beginAlt(4));
        seen.add("symbols taken: " + takenSymbols(x));
        int alts = 0;
        while (alts < 100 && x.beginAlt(4)) {
            alts++;
        }
        seen.add("alternatives taken: " + alts);
    }

    private static int takenSymbols(AdaptiveLlStar x) {
        int symbols = 0;
        while (symbols < 100 && x.addTerminal(3)) {
            symbols++;
        }
        return symbols;
    }

    private static void lookAtGrammar(AdaptiveLlStar x, String what, List<String> seen) {
        seen.add("compile() of " + what + ": " + x.compile());
        for (String tokens : INPUTS) {
            x.clearInput();
            for (int i = 0; i < tokens.length(); i++) {
                x.token(tokens.charAt(i) - 'a');
            }
            int code = x.parse();
            boolean isRefused = code == AdaptiveLlStar.PARSE_NOT_COMPILED;
            seen.add(what + ", parse() of '" + tokens + "': " + code + " " + (isRefused ? "" : getters(x)));
        }
    }

    /** All getters, at the nodes of the tree and around them. */
    static String getters(AdaptiveLlStar x) {
        StringBuilder seen = new StringBuilder();
        seen.append(x.errorPosition()).append(": ").append(x.nodeCount()).append(" nodes");
        for (int node = -2; node < x.nodeCount() + 2; node++) {
            seen.append(' ').append(x.nodeSymbol(node)).append(',').append(x.nodeAlt(node));
            seen.append(',').append(x.nodeParent(node)).append(',').append(x.nodeStart(node));
            seen.append(',').append(x.nodeEnd(node)).append(x.nodeAmbiguous(node) ? "!" : "");
        }
        return seen.toString();
    }

    /** The input, read back by a grammar that takes every one of a, b and c; the old grammar and result are lost. */
    static String inputOf(AdaptiveLlStar x) {
        x.clearGrammar();
        Check.add(x, "A=aA", "A=bA", "A=cA", "A=");
        Check.same("compile()", x.compile(), AdaptiveLlStar.COMPILE_OK);
        Check.same("parse()", x.parse(), AdaptiveLlStar.PARSE_ACCEPT);
        StringBuilder read = new StringBuilder();
        for (int node = 0; node < x.nodeCount(); node++) {
            if (x.nodeAlt(node) == 0) {
                read.append((char) ('a' + x.nodeSymbol(node)));
            }
        }
        return read.toString();
    }
}
