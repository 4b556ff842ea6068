/**
 * A parser for small context-free grammars that answers the first derivation
 * of its input and marks the decisions in it that could have gone another way.
 *
 * A symbol is kept as one int: a terminal as itself, a rule as MAX_TERMINALS
 * plus its number. A set of places in the input is kept as one int as well,
 * bit i standing for the place before token i.
 */
public final class AdaptiveLlStar {
    public static final int MAX_RULES = 8;
    public static final int MAX_TERMINALS = 16;
    public static final int MAX_ALTS = 16;
    public static final int MAX_SYMBOLS = 48;

    public static final int COMPILE_OK = 0;
    public static final int COMPILE_NO_START = 1;
    public static final int COMPILE_UNDEFINED_RULE = 2;
    public static final int COMPILE_UNPRODUCTIVE = 3;
    public static final int COMPILE_LEFT_RECURSIVE = 4;

    public static final int PARSE_ACCEPT = 0;
    public static final int PARSE_REJECT = 1;
    public static final int PARSE_TOO_BIG = 2;
    public static final int PARSE_NOT_COMPILED = 3;

    private static final int MIN_TOKENS = 1;
    private static final int MAX_TOKENS = 12;
    private static final int MIN_NODES = 8;
    private static final int MAX_NODES = 64;

    private static final int START_RULE = 0;
    private static final int NONE = -1;

    // One place more than tokens, as the end of the input is a place too.
    private static final int PLACES = MAX_TOKENS + 1;
    private static final int SPAN_CELLS = (MAX_TERMINALS + MAX_RULES) * PLACES;

    // A round that is not the last one adds a place to a rule's set.
    private static final int BEGIN_ROUNDS = MAX_RULES * PLACES;

    // Every node is added once and closed at most once.
    private static final int TREE_STEPS = 2 * MAX_NODES;

    private final int tokenLimit;
    private final int nodeLimit;

    // The symbols of alternative a are symbols[altStart[a]] up to, but not
    // with, symbols[altEnd[a]]. Only the newest alternative can grow, so that
    // the alternatives lie one behind the other.
    private final int[] altRule = new int[MAX_ALTS];
    private final int[] altNumber = new int[MAX_ALTS];
    private final int[] altStart = new int[MAX_ALTS];
    private final int[] altEnd = new int[MAX_ALTS];
    private final int[] symbols = new int[MAX_SYMBOLS];
    private int altCount;
    private int symbolCount;
    private boolean compiled;

    private final int[] input = new int[MAX_TOKENS];
    private int inputLength;

    // For a rule, the set of the rules that it begins with.
    private final int[] firstRules = new int[MAX_RULES];

    // For a symbol and a place, the set of the places where it can end.
    private final int[] spans = new int[SPAN_CELLS];

    // For a rule, the set of the places where a partial tree can begin it.
    private final int[] begun = new int[MAX_RULES];

    private final int[] symbolOf = new int[MAX_NODES];
    private final int[] altOf = new int[MAX_NODES];
    private final int[] parentOf = new int[MAX_NODES];
    private final int[] startOf = new int[MAX_NODES];
    private final int[] endOf = new int[MAX_NODES];
    private final boolean[] ambiguousOf = new boolean[MAX_NODES];
    private int resultSize;
    private int resultError;

    // For a rule node while the tree grows: the symbols that still have no
    // child, and the places where the node may end so that the rest of the
    // tree can be completed.
    private final int[] nextSymbol = new int[MAX_NODES];
    private final int[] stopSymbol = new int[MAX_NODES];
    private final int[] goalsOf = new int[MAX_NODES];

    public AdaptiveLlStar(int tokenLimit, int nodeLimit) {
        this.tokenLimit = clamp(tokenLimit, MIN_TOKENS, MAX_TOKENS);
        this.nodeLimit = clamp(nodeLimit, MIN_NODES, MAX_NODES);
    }

    public void clearGrammar() {
        altCount = 0;
        symbolCount = 0;
        compiled = false;
    }

    public boolean beginAlt(int rule) {
        if (rule < 0 || rule >= MAX_RULES || altCount >= MAX_ALTS) {
            return false;
        }
        altNumber[altCount] = 1 + countAlts(rule);
        altRule[altCount] = rule;
        altStart[altCount] = symbolCount;
        altEnd[altCount] = symbolCount;
        altCount++;
        compiled = false;
        return true;
    }

    public boolean addTerminal(int t) {
        return t >= 0 && t < MAX_TERMINALS && appendSymbol(t);
    }

    public boolean addRule(int rule) {
        return rule >= 0 && rule < MAX_RULES && appendSymbol(MAX_TERMINALS + rule);
    }

    public int compile() {
        int defined = definedRules();
        if (!contains(defined, START_RULE)) {
            return COMPILE_NO_START;
        }
        if (hasUndefinedRule(defined)) {
            return COMPILE_UNDEFINED_RULE;
        }
        int productive = rulesMadeOf(true);
        if (productive != defined) {
            return COMPILE_UNPRODUCTIVE;
        }
        if (hasLeftRecursion()) {
            return COMPILE_LEFT_RECURSIVE;
        }
        compiled = true;
        return COMPILE_OK;
    }

    public boolean token(int t) {
        if (t < 0 || t >= MAX_TERMINALS || inputLength >= tokenLimit) {
            return false;
        }
        input[inputLength] = t;
        inputLength++;
        return true;
    }

    public void clearInput() {
        inputLength = 0;
    }

    public int parse() {
        if (!compiled) {
            return PARSE_NOT_COMPILED;
        }
        findSpans();
        int sentenceEnds = spans[(MAX_TERMINALS + START_RULE) * PLACES];
        if (!contains(sentenceEnds, inputLength)) {
            resultSize = 0;
            resultError = viablePrefixLength();
            return PARSE_REJECT;
        }
        resultError = inputLength;
        if (!growTree()) {
            resultSize = 0;
            return PARSE_TOO_BIG;
        }
        return PARSE_ACCEPT;
    }

    public int errorPosition() {
        return resultError;
    }

    public int nodeCount() {
        return resultSize;
    }

    public int nodeSymbol(int node) {
        return isNode(node) ? symbolOf[node] : NONE;
    }

    public int nodeAlt(int node) {
        return isNode(node) ? altOf[node] : NONE;
    }

    public int nodeParent(int node) {
        return isNode(node) ? parentOf[node] : NONE;
    }

    public int nodeStart(int node) {
        return isNode(node) ? startOf[node] : NONE;
    }

    public int nodeEnd(int node) {
        return isNode(node) ? endOf[node] : NONE;
    }

    public boolean nodeAmbiguous(int node) {
        return isNode(node) && ambiguousOf[node];
    }

    private static int clamp(int value, int least, int most) {
        if (value < least) {
            return least;
        }
        return value > most ? most : value;
    }

    private static boolean contains(int set, int member) {
        return (set >> member & 1) != 0;
    }

    private boolean isNode(int node) {
        return node >= 0 && node < resultSize;
    }

    private int countAlts(int rule) {
        int count = 0;
        for (int alt = 0; alt < altCount; alt++) {
            if (altRule[alt] == rule) {
                count++;
            }
        }
        return count;
    }

    private boolean appendSymbol(int symbol) {
        if (altCount == 0 || symbolCount >= MAX_SYMBOLS) {
            return false;
        }
        symbols[symbolCount] = symbol;
        symbolCount++;
        altEnd[altCount - 1] = symbolCount;
        compiled = false;
        return true;
    }

    private int definedRules() {
        int defined = 0;
        for (int alt = 0; alt < altCount; alt++) {
            defined |= 1 << altRule[alt];
        }
        return defined;
    }

    private boolean hasUndefinedRule(int defined) {
        for (int i = 0; i < symbolCount; i++) {
            if (symbols[i] >= MAX_TERMINALS && !contains(defined, symbols[i] - MAX_TERMINALS)) {
                return true;
            }
        }
        return false;
    }

    /** The productive rules if terminals are allowed, the nullable ones if not. */
    private int rulesMadeOf(boolean terminalsAllowed) {
        int found = 0;
        // Every round that is not the last one finds a rule.
        for (int round = 0; round < MAX_RULES; round++) {
            for (int alt = 0; alt < altCount; alt++) {
                if (altMadeOf(alt, found, terminalsAllowed)) {
                    found |= 1 << altRule[alt];
                }
            }
        }
        return found;
    }

    private boolean altMadeOf(int alt, int rules, boolean terminalsAllowed) {
        for (int i = altStart[alt]; i < altEnd[alt]; i++) {
            boolean allowed = symbols[i] < MAX_TERMINALS
                    ? terminalsAllowed
                    : contains(rules, symbols[i] - MAX_TERMINALS);
            if (!allowed) {
                return false;
            }
        }
        return true;
    }

    private boolean hasLeftRecursion() {
        findFirstRules();
        closeFirstRules();
        for (int rule = 0; rule < MAX_RULES; rule++) {
            if (contains(firstRules[rule], rule)) {
                return true;
            }
        }
        return false;
    }

    private void findFirstRules() {
        for (int rule = 0; rule < MAX_RULES; rule++) {
            firstRules[rule] = 0;
        }
        int nullable = rulesMadeOf(false);
        for (int alt = 0; alt < altCount; alt++) {
            int first = firstRulesOfAlt(alt, nullable);
            firstRules[altRule[alt]] |= first;
        }
    }

    private int firstRulesOfAlt(int alt, int nullable) {
        int first = 0;
        for (int i = altStart[alt]; i < altEnd[alt]; i++) {
            if (symbols[i] < MAX_TERMINALS) {
                return first;
            }
            int rule = symbols[i] - MAX_TERMINALS;
            first |= 1 << rule;
            if (!contains(nullable, rule)) {
                return first;
            }
        }
        return first;
    }

    private void closeFirstRules() {
        // The middle rule must be the outer loop: then one pass is enough.
        for (int middle = 0; middle < MAX_RULES; middle++) {
            for (int rule = 0; rule < MAX_RULES; rule++) {
                if (contains(firstRules[rule], middle)) {
                    firstRules[rule] |= firstRules[middle];
                }
            }
        }
    }

    private void findSpans() {
        for (int cell = 0; cell < SPAN_CELLS; cell++) {
            spans[cell] = 0;
        }
        for (int place = 0; place < inputLength; place++) {
            spans[input[place] * PLACES + place] = 1 << (place + 1);
        }
        // From the back, so that all spans from later places stand already.
        for (int place = inputLength; place >= 0; place--) {
            findRuleSpansFrom(place);
        }
    }

    private void findRuleSpansFrom(int place) {
        // As no rule is left-recursive, the rules that start at one place need
        // each other in chains of at most MAX_RULES rules.
        for (int round = 0; round < MAX_RULES; round++) {
            for (int alt = 0; alt < altCount; alt++) {
                int ends = endsOfAlt(alt, place);
                spans[(MAX_TERMINALS + altRule[alt]) * PLACES + place] |= ends;
            }
        }
    }

    private int endsOfAlt(int alt, int place) {
        int places = 1 << place;
        for (int i = altStart[alt]; i < altEnd[alt]; i++) {
            places = placesAfter(symbols[i], places);
        }
        return places;
    }

    private int placesAfter(int symbol, int starts) {
        int ends = 0;
        for (int place = 0; place <= inputLength; place++) {
            if (contains(starts, place)) {
                ends |= spans[symbol * PLACES + place];
            }
        }
        return ends;
    }

    private int placesBefore(int symbol, int ends) {
        int starts = 0;
        for (int place = 0; place <= inputLength; place++) {
            if ((spans[symbol * PLACES + place] & ends) != 0) {
                starts |= 1 << place;
            }
        }
        return starts;
    }

    /**
     * How far the tokens can be read from the start rule. What is read this
     * way begins a sentence, as every rule that is still to come is productive.
     */
    private int viablePrefixLength() {
        for (int rule = 0; rule < MAX_RULES; rule++) {
            begun[rule] = 0;
        }
        begun[START_RULE] = 1;
        int reached = 1;
        for (int round = 0; round < BEGIN_ROUNDS; round++) {
            for (int alt = 0; alt < altCount; alt++) {
                reached |= readAlt(alt);
            }
        }
        int length = 0;
        for (int place = 0; place <= inputLength; place++) {
            if (contains(reached, place)) {
                length = place;
            }
        }
        return length;
    }

    /** Answers all places that the alternative comes by, and begins its rules there. */
    private int readAlt(int alt) {
        int places = begun[altRule[alt]];
        int reached = places;
        for (int i = altStart[alt]; i < altEnd[alt]; i++) {
            if (symbols[i] >= MAX_TERMINALS) {
                begun[symbols[i] - MAX_TERMINALS] |= places;
            }
            places = placesAfter(symbols[i], places);
            reached |= places;
        }
        return reached;
    }

    /**
     * Grows the first derivation in preorder, which exists; answers false when
     * it has more nodes than may be kept. An alternative is only ever taken if
     * the tree can be completed with it, so that nothing is taken back.
     */
    private boolean growTree() {
        resultSize = 0;
        addNode(START_RULE, NONE, 0);
        chooseAlt(0, 1 << inputLength);
        int open = 0;
        int place = 0;
        for (int step = 0; step < TREE_STEPS && open != NONE; step++) {
            if (nextSymbol[open] >= stopSymbol[open]) {
                endOf[open] = place;
                open = parentOf[open];
            } else if (resultSize >= nodeLimit) {
                return false;
            } else {
                int child = resultSize;
                int symbol = symbols[nextSymbol[open]];
                nextSymbol[open]++;
                if (symbol < MAX_TERMINALS) {
                    addNode(symbol, open, place);
                    place++;
                    endOf[child] = place;
                } else {
                    addNode(symbol - MAX_TERMINALS, open, place);
                    int goals = goalsOfChild(open);
                    chooseAlt(child, goals);
                    open = child;
                }
            }
        }
        return true;
    }

    /** Adds a node as a token node has it; a rule node still gets its alternative. */
    private void addNode(int symbol, int parent, int start) {
        symbolOf[resultSize] = symbol;
        altOf[resultSize] = 0;
        parentOf[resultSize] = parent;
        startOf[resultSize] = start;
        ambiguousOf[resultSize] = false;
        resultSize++;
    }

    /** The places where a child may end so that all after it can be completed. */
    private int goalsOfChild(int parent) {
        int goals = goalsOf[parent];
        for (int i = stopSymbol[parent] - 1; i >= nextSymbol[parent]; i--) {
            goals = placesBefore(symbols[i], goals);
        }
        return goals;
    }

    private void chooseAlt(int node, int goals) {
        goalsOf[node] = goals;
        int choices = 0;
        for (int alt = 0; alt < altCount; alt++) {
            if (altRule[alt] == symbolOf[node]) {
                int ends = endsOfAlt(alt, startOf[node]);
                if ((ends & goals) != 0) {
                    choices++;
                    if (choices == 1) {
                        takeAlt(node, alt);
                    }
                }
            }
        }
        ambiguousOf[node] = choices > 1;
    }

    private void takeAlt(int node, int alt) {
        altOf[node] = altNumber[alt];
        nextSymbol[node] = altStart[alt];
        stopSymbol[node] = altEnd[alt];
    }
}
