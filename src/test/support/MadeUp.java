import java.util.ArrayList;
import java.util.List;

/** Grammars and inputs from a fixed sequence of numbers: every run of a test tries the same cases. */
final class MadeUp {
    private long state;

    MadeUp(long seed) {
        state = seed;
    }

    int pick(int bound) {
        state = state * 6364136223846793005L + 1442695040888963407L;
        return (int) ((state >>> 33) % bound);
    }

    List<String> grammar() {
        int rules = 1 + pick(pick(3) == 0 ? 8 : 4);
        int terminals = 1 + pick(3);
        int most = 1 + pick(5);
        int ruleShare = 20 + pick(50);
        int count = pick(40) == 0 ? pick(17) : Math.min(16, rules + pick(2 * rules + 2));
        int left = 48;
        List<String> alts = new ArrayList<>();
        for (int i = 0; i < count; i++) {
            int rule = i < rules && pick(60) > 0 ? i : pick(rules);
            StringBuilder alt = new StringBuilder();
            alt.append((char) ('A' + rule)).append('=');
            int length = Math.min(pick(most + 1), left);
            for (int k = 0; k < length; k++) {
                alt.append(symbol(rule, rules, terminals, k == 0 ? ruleShare / 2 : ruleShare));
            }
            left -= length;
            alts.add(alt.toString());
        }
        for (int i = 0; i < count; i++) {
            alts.add(pick(count), alts.remove(pick(count)));
        }
        return alts;
    }

    // Mostly later rules, as a grammar of all kinds of references is mostly left-recursive.
    private char symbol(int rule, int rules, int terminals, int ruleShare) {
        if (pick(100) >= ruleShare) {
            return (char) ('a' + pick(terminals));
        }
        boolean later = rule + 1 < rules && pick(10) < 8;
        int named = later ? rule + 1 + pick(rules - rule - 1) : pick(pick(60) == 0 ? 8 : rules);
        return (char) ('A' + named);
    }

    /** Mostly a sentence of the grammar, which compiles, or one with a fault. */
    String input(List<String> alts, int tokenLimit) {
        StringBuilder text = new StringBuilder();
        if (pick(4) > 0) {
            sentence(alts, text);
        }
        if (text.length() == 0 || pick(3) == 0) {
            int at = pick(text.length() + 1);
            text.insert(at, (char) ('a' + pick(4)));
        }
        while (pick(6) == 0) {
            text.append((char) ('a' + pick(2)));
        }
        if (pick(8) == 0) {
            text.setLength(pick(text.length() + 1));
        }
        return text.substring(0, Math.min(text.length(), tokenLimit));
    }

    private void sentence(List<String> alts, StringBuilder text) {
        String rest = "A";
        for (int step = 0; !rest.isEmpty() && step < 60 && text.length() <= 12; step++) {
            char symbol = rest.charAt(0);
            rest = rest.substring(1);
            if (Character.isUpperCase(symbol)) {
                List<String> choices = PlainParser.altsOf(alts, symbol);
                rest = choices.get(pick(choices.size())).substring(2) + rest;
            } else {
                text.append(symbol);
            }
        }
    }
}
