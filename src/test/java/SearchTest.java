import java.util.ArrayList;
import java.util.List;

/**
 * Promises 6 and 9 to 16 on made-up grammars and inputs, each answer against a
 * plain search through all leftmost derivations. One object lives through all
 * cases, beside a new one for each case: the past must make no difference.
 */
public final class SearchTest {
    private static final int GRAMMARS = 12000;
    private static final int INPUTS = 12;
    private static final int SEARCH_LIMIT = 20000;
    private static final int[][] LIMITS = {{12, 64}, {12, 8}, {9, 30}, {12, 64}, {6, 16}, {1, 9}};

    /** The symbols that are still to be read. */
    private record Rest(char symbol, Rest next) {
    }

    // A fixed sequence: every run of the test tries the same cases.
    private static long state = 20261115;

    private static List<String> alts = new ArrayList<>();
    private static String tokens = "";
    private static int searched;
    private static int farthest;

    private static int[] compileCodes = new int[5];
    private static int[] parseCodes = new int[4];
    private static int marked = 0;
    private static int given = 0;

    public static void main(String[] args) {
        AdaptiveLlStar[] old = new AdaptiveLlStar[LIMITS.length];
        for (int i = 0; i < LIMITS.length; i++) {
            old[i] = new AdaptiveLlStar(LIMITS[i][0], LIMITS[i][1]);
        }
        for (int i = 0; i < GRAMMARS; i++) {
            int k = i % LIMITS.length;
            makeGrammar();
            tryGrammar(old[k], LIMITS[k][0], LIMITS[k][1]);
        }
        enough();
        Check.end();
    }

    private static int pick(int bound) {
        state = state * 6364136223846793005L + 1442695040888963407L;
        return (int) ((state >>> 33) % bound);
    }

    // A test that never comes to an answer would not see it broken.
    private static void enough() {
        for (int code = 0; code < 5; code++) {
            Check.same("compile() often answers " + code, compileCodes[code] >= 40, true);
        }
        for (int code = 0; code < 3; code++) {
            Check.same("parse() often answers " + code, parseCodes[code] >= 400, true);
        }
        Check.same("ambiguous nodes are often met", marked >= 400, true);
        Check.same("few searches are given up", given * 20 < parseCodes[0] + parseCodes[1] + parseCodes[2], true);
    }

    private static void makeGrammar() {
        int rules = 1 + pick(pick(3) == 0 ? 8 : 4);
        int terminals = 1 + pick(3);
        int most = 1 + pick(5);
        int ruleShare = 20 + pick(50);
        int count = pick(40) == 0 ? pick(17) : Math.min(16, rules + pick(2 * rules + 2));
        int left = 48;
        alts = new ArrayList<>();
        for (int i = 0; i < count; i++) {
            int rule = i < rules && pick(60) > 0 ? i : pick(rules);
            StringBuilder alt = new StringBuilder();
            alt.append((char) ('A' + rule)).append('=');
            int length = Math.min(pick(most + 1), left);
            for (int k = 0; k < length; k++) {
                alt.append(makeSymbol(rule, rules, terminals, k == 0 ? ruleShare / 2 : ruleShare));
            }
            left -= length;
            alts.add(alt.toString());
        }
        for (int i = 0; i < count; i++) {
            alts.add(pick(count), alts.remove(pick(count)));
        }
    }

    // Mostly later rules, as a grammar of all kinds of references is mostly left-recursive.
    private static char makeSymbol(int rule, int rules, int terminals, int ruleShare) {
        if (pick(100) >= ruleShare) {
            return (char) ('a' + pick(terminals));
        }
        boolean later = rule + 1 < rules && pick(10) < 8;
        int named = later ? rule + 1 + pick(rules - rule - 1) : pick(pick(60) == 0 ? 8 : rules);
        return (char) ('A' + named);
    }

    private static void tryGrammar(AdaptiveLlStar old, int tokenLimit, int nodeLimit) {
        old.clearGrammar();
        Check.add(old, alts.toArray(new String[0]));
        int due = codeDue();
        compileCodes[due]++;
        String before = Check.result(old);
        Check.same("compile() of " + alts, old.compile(), due);
        Check.same("result after compile() of " + alts, Check.result(old), before);
        if (due != AdaptiveLlStar.COMPILE_OK) {
            Check.same("parse() with " + alts, old.parse(), AdaptiveLlStar.PARSE_NOT_COMPILED);
            Check.same("result after it", Check.result(old), before);
            return;
        }
        for (int i = 0; i < INPUTS; i++) {
            makeInput(tokenLimit);
            tryInput(old, tokenLimit, nodeLimit);
        }
    }

    private static void tryInput(AdaptiveLlStar old, int tokenLimit, int nodeLimit) {
        String what = alts + " on '" + tokens + "' with " + tokenLimit + ", " + nodeLimit;
        int code = Check.parse(old, tokens);
        AdaptiveLlStar fresh = Check.compiledWithin(tokenLimit, nodeLimit, alts.toArray(new String[0]));
        Check.same("parse() of a new one for " + what, Check.parse(fresh, tokens), code);
        Check.same("result of a new one for " + what, Check.result(fresh), Check.result(old));
        Check.nothingOutOfRange(old);
        searched = 0;
        farthest = 0;
        List<Integer> choices = new ArrayList<>();
        boolean found = search(new Rest('A', null), 0, choices);
        if (searched > SEARCH_LIMIT) {
            given++;
            return;
        }
        String due = farthest + ": ";
        int codeDue = AdaptiveLlStar.PARSE_REJECT;
        if (found) {
            int nodes = choices.size() + tokens.length();
            codeDue = nodes > nodeLimit ? AdaptiveLlStar.PARSE_TOO_BIG : AdaptiveLlStar.PARSE_ACCEPT;
            due = tokens.length() + ": " + (nodes > nodeLimit ? "" : tree(choices));
        }
        if (searched > SEARCH_LIMIT) {
            given++;
            return;
        }
        parseCodes[codeDue]++;
        Check.same("parse() for " + what, code, codeDue);
        Check.same("result for " + what, Check.result(old), due);
    }

    /** Mostly a sentence, or one with a fault. */
    private static void makeInput(int tokenLimit) {
        StringBuilder text = new StringBuilder();
        if (pick(4) > 0) {
            sentence(text);
        }
        if (text.length() == 0 || pick(3) == 0) {
            int at = pick(text.length() + 1);
            text.insert(at, (char) ('a' + pick(4)));
        }
        while (pick(6) == 0) {
            text.append((char) ('a' + pick(2)));
        }
        if (pick(8) == 0) {
            text.setLength(pick(text.length() + 1));
        }
        tokens = text.substring(0, Math.min(text.length(), tokenLimit));
    }

    private static void sentence(StringBuilder text) {
        Rest rest = new Rest('A', null);
        for (int step = 0; rest != null && step < 60 && text.length() <= 12; step++) {
            if (Character.isUpperCase(rest.symbol)) {
                List<String> choices = altsOf(rest.symbol);
                rest = push(choices.get(pick(choices.size())), rest.next);
            } else {
                text.append(rest.symbol);
                rest = rest.next;
            }
        }
    }

    private static List<String> altsOf(char rule) {
        List<String> found = new ArrayList<>();
        for (String alt : alts) {
            if (alt.charAt(0) == rule) {
                found.add(alt);
            }
        }
        return found;
    }

    private static Rest push(String alt, Rest rest) {
        Rest pushed = rest;
        for (int i = alt.length() - 1; i >= 2; i--) {
            pushed = new Rest(alt.charAt(i), pushed);
        }
        return pushed;
    }

    /** Leaves in choices the least alt sequence that reads all tokens from at on. */
    private static boolean search(Rest rest, int at, List<Integer> choices) {
        farthest = Math.max(farthest, at);
        if (searched++ > SEARCH_LIMIT) {
            return false;
        }
        if (rest == null) {
            return at == tokens.length();
        }
        if (!Character.isUpperCase(rest.symbol)) {
            return at < tokens.length() && tokens.charAt(at) == rest.symbol && search(rest.next, at + 1, choices);
        }
        int number = 0;
        for (String alt : altsOf(rest.symbol)) {
            number++;
            choices.add(number);
            if (search(push(alt, rest.next), at, choices)) {
                return true;
            }
            choices.remove(choices.size() - 1);
        }
        return false;
    }

    /** Whether an alternative other than the one of the first derivation can be taken there. */
    private static boolean ambiguous(List<Integer> choices, int decision) {
        Rest rest = new Rest('A', null);
        int at = 0;
        int made = 0;
        while (made < decision || !Character.isUpperCase(rest.symbol)) {
            if (Character.isUpperCase(rest.symbol)) {
                rest = push(altsOf(rest.symbol).get(choices.get(made) - 1), rest.next);
                made++;
            } else {
                rest = rest.next;
                at++;
            }
        }
        int number = 0;
        for (String alt : altsOf(rest.symbol)) {
            number++;
            if (number != choices.get(decision) && search(push(alt, rest.next), at, new ArrayList<>())) {
                return true;
            }
        }
        return false;
    }

    private static String tree(List<Integer> choices) {
        List<String> nodes = new ArrayList<>();
        int[] decisionAndPlace = new int[2];
        writeNode('A', -1, choices, nodes, decisionAndPlace);
        return String.join(" ", nodes);
    }

    private static void writeNode(char symbol, int parent, List<Integer> choices, List<String> nodes, int[] now) {
        int node = nodes.size();
        int start = now[1];
        if (!Character.isUpperCase(symbol)) {
            now[1]++;
            nodes.add(symbol + "" + start + "-" + now[1] + "^" + parent);
            return;
        }
        boolean isAmbiguous = ambiguous(choices, now[0]);
        int number = choices.get(now[0]);
        now[0]++;
        marked += isAmbiguous ? 1 : 0;
        nodes.add("");
        String alt = altsOf(symbol).get(number - 1);
        for (int i = 2; i < alt.length(); i++) {
            writeNode(alt.charAt(i), node, choices, nodes, now);
        }
        nodes.set(node, symbol + "" + number + (isAmbiguous ? "!" : "") + start + "-" + now[1] + "^" + parent);
    }

    private static int codeDue() {
        if (altsOf('A').isEmpty()) {
            return AdaptiveLlStar.COMPILE_NO_START;
        }
        boolean unproductive = false;
        boolean leftRecursive = false;
        for (String alt : alts) {
            for (int i = 2; i < alt.length(); i++) {
                if (Character.isUpperCase(alt.charAt(i)) && altsOf(alt.charAt(i)).isEmpty()) {
                    return AdaptiveLlStar.COMPILE_UNDEFINED_RULE;
                }
            }
            unproductive |= !derivesSome(alt.charAt(0), "", true);
            leftRecursive |= comesFirst(alt.charAt(0), alt.charAt(0), "");
        }
        if (unproductive) {
            return AdaptiveLlStar.COMPILE_UNPRODUCTIVE;
        }
        return leftRecursive ? AdaptiveLlStar.COMPILE_LEFT_RECURSIVE : AdaptiveLlStar.COMPILE_OK;
    }

    // A least tree never has a rule below itself, so that the rules above can be left out.
    private static boolean derivesSome(char symbol, String above, boolean terminals) {
        if (!Character.isUpperCase(symbol)) {
            return terminals;
        }
        if (above.indexOf(symbol) >= 0) {
            return false;
        }
        for (String alt : altsOf(symbol)) {
            boolean all = true;
            for (int i = 2; all && i < alt.length(); i++) {
                all = derivesSome(alt.charAt(i), above + symbol, terminals);
            }
            if (all) {
                return true;
            }
        }
        return false;
    }

    private static boolean comesFirst(char rule, char from, String passed) {
        for (String alt : altsOf(from)) {
            for (int i = 2; i < alt.length() && Character.isUpperCase(alt.charAt(i)); i++) {
                char first = alt.charAt(i);
                if (first == rule) {
                    return true;
                }
                if (passed.indexOf(first) < 0 && comesFirst(rule, first, passed + first)) {
                    return true;
                }
                if (!derivesSome(first, "", false)) {
                    break;
                }
            }
        }
        return false;
    }
}
