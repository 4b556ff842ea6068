import java.util.ArrayList;
import java.util.List;

/**
 * The definitions of the document as plain searches through all leftmost
 * derivations, with the notation of Check. It may take too long for a grammar
 * of many derivations, and then gives up.
 */
final class PlainParser {
    private static final int SEARCH_LIMIT = 20000;

    /** The symbols that are still to be read. */
    private record Rest(char symbol, Rest next) {
    }

    private final List<String> alts;
    private String tokens = "";
    private int searched;
    private int farthest;
    private int code;
    private String result = "";
    private int marked;

    PlainParser(List<String> alts) {
        this.alts = alts;
    }

    /** The answer of the last parse. */
    int code() {
        return code;
    }

    /** The result of the last parse, as Check.result has it. */
    String result() {
        return result;
    }

    /** How many nodes were found ambiguous so far. */
    int marked() {
        return marked;
    }

    /** Finds answer and result for the input; false if that was given up. */
    boolean parse(String input, int nodeLimit) {
        tokens = input;
        searched = 0;
        farthest = 0;
        List<Integer> choices = new ArrayList<>();
        boolean found = search(new Rest('A', null), 0, choices);
        if (searched > SEARCH_LIMIT) {
            return false;
        }
        code = AdaptiveLlStar.PARSE_REJECT;
        result = farthest + ": ";
        if (found) {
            boolean tooBig = choices.size() + tokens.length() > nodeLimit;
            code = tooBig ? AdaptiveLlStar.PARSE_TOO_BIG : AdaptiveLlStar.PARSE_ACCEPT;
            result = tokens.length() + ": " + (tooBig ? "" : tree(choices));
        }
        return searched <= SEARCH_LIMIT;
    }

    static List<String> altsOf(List<String> alts, char rule) {
        List<String> found = new ArrayList<>();
        for (String alt : alts) {
            if (alt.charAt(0) == rule) {
                found.add(alt);
            }
        }
        return found;
    }

    private List<String> altsOf(char rule) {
        return altsOf(alts, rule);
    }

    private static Rest push(String alt, Rest rest) {
        Rest pushed = rest;
        for (int i = alt.length() - 1; i >= 2; i--) {
            pushed = new Rest(alt.charAt(i), pushed);
        }
        return pushed;
    }

    /** Leaves in choices the least alt sequence that reads all tokens from at on. */
    private boolean search(Rest rest, int at, List<Integer> choices) {
        farthest = Math.max(farthest, at);
        if (searched++ > SEARCH_LIMIT) {
            return false;
        }
        if (rest == null) {
            return at == tokens.length();
        }
        if (!Character.isUpperCase(rest.symbol)) {
            return at < tokens.length() && tokens.charAt(at) == rest.symbol && search(rest.next, at + 1, choices);
        }
        int number = 0;
        for (String alt : altsOf(rest.symbol)) {
            number++;
            choices.add(number);
            if (search(push(alt, rest.next), at, choices)) {
                return true;
            }
            choices.remove(choices.size() - 1);
        }
        return false;
    }

    /** Whether an alternative other than the one of the first derivation can be taken there. */
    private boolean ambiguous(List<Integer> choices, int decision) {
        Rest rest = new Rest('A', null);
        int at = 0;
        int made = 0;
        while (made < decision || !Character.isUpperCase(rest.symbol)) {
            if (Character.isUpperCase(rest.symbol)) {
                rest = push(altsOf(rest.symbol).get(choices.get(made) - 1), rest.next);
                made++;
            } else {
                rest = rest.next;
                at++;
            }
        }
        int number = 0;
        for (String alt : altsOf(rest.symbol)) {
            number++;
            if (number != choices.get(decision) && search(push(alt, rest.next), at, new ArrayList<>())) {
                return true;
            }
        }
        return false;
    }

    private String tree(List<Integer> choices) {
        List<String> nodes = new ArrayList<>();
        int[] decisionAndPlace = new int[2];
        writeNode('A', -1, choices, nodes, decisionAndPlace);
        return String.join(" ", nodes);
    }

    private void writeNode(char symbol, int parent, List<Integer> choices, List<String> nodes, int[] now) {
        int node = nodes.size();
        int start = now[1];
        if (!Character.isUpperCase(symbol)) {
            now[1]++;
            nodes.add(symbol + "" + start + "-" + now[1] + "^" + parent);
            return;
        }
        boolean isAmbiguous = ambiguous(choices, now[0]);
        int number = choices.get(now[0]);
        now[0]++;
        marked += isAmbiguous ? 1 : 0;
        nodes.add("");
        String alt = altsOf(symbol).get(number - 1);
        for (int i = 2; i < alt.length(); i++) {
            writeNode(alt.charAt(i), node, choices, nodes, now);
        }
        nodes.set(node, symbol + "" + number + (isAmbiguous ? "!" : "") + start + "-" + now[1] + "^" + parent);
    }

    int compileCode() {
        if (altsOf('A').isEmpty()) {
            return AdaptiveLlStar.COMPILE_NO_START;
        }
        boolean unproductive = false;
        boolean leftRecursive = false;
        for (String alt : alts) {
            for (int i = 2; i < alt.length(); i++) {
                if (Character.isUpperCase(alt.charAt(i)) && altsOf(alt.charAt(i)).isEmpty()) {
                    return AdaptiveLlStar.COMPILE_UNDEFINED_RULE;
                }
            }
            unproductive |= !derivesSome(alt.charAt(0), "", true);
            leftRecursive |= comesFirst(alt.charAt(0), alt.charAt(0), "");
        }
        if (unproductive) {
            return AdaptiveLlStar.COMPILE_UNPRODUCTIVE;
        }
        return leftRecursive ? AdaptiveLlStar.COMPILE_LEFT_RECURSIVE : AdaptiveLlStar.COMPILE_OK;
    }

    // A least tree never has a rule below itself, so that the rules above can be left out.
    private boolean derivesSome(char symbol, String above, boolean terminals) {
        if (!Character.isUpperCase(symbol)) {
            return terminals;
        }
        if (above.indexOf(symbol) >= 0) {
            return false;
        }
        for (String alt : altsOf(symbol)) {
            boolean all = true;
            for (int i = 2; all && i < alt.length(); i++) {
                all = derivesSome(alt.charAt(i), above + symbol, terminals);
            }
            if (all) {
                return true;
            }
        }
        return false;
    }

    private boolean comesFirst(char rule, char from, String passed) {
        for (String alt : altsOf(from)) {
            for (int i = 2; i < alt.length() && Character.isUpperCase(alt.charAt(i)); i++) {
                char first = alt.charAt(i);
                if (first == rule) {
                    return true;
                }
                if (passed.indexOf(first) < 0 && comesFirst(rule, first, passed + first)) {
                    return true;
                }
                if (!derivesSome(first, "", false)) {
                    break;
                }
            }
        }
        return false;
    }
}
