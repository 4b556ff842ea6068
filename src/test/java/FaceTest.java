import java.lang.reflect.Constructor;
import java.lang.reflect.Field;
import java.lang.reflect.Method;
import java.lang.reflect.Modifier;
import java.util.Arrays;
import java.util.TreeSet;
import java.util.stream.Collectors;

/** The sections "What it is" and "The public face" of the document, sentence by sentence. */
public final class FaceTest {
    private static final String FACE = "AdaptiveLlStar(int,int)"
            + " boolean addRule(int) boolean addTerminal(int) boolean beginAlt(int) boolean nodeAmbiguous(int)"
            + " boolean token(int) int compile() int errorPosition() int nodeAlt(int) int nodeCount()"
            + " int nodeEnd(int) int nodeParent(int) int nodeStart(int) int nodeSymbol(int) int parse()"
            + " void clearGrammar() void clearInput()";
    private static final String CONSTANTS = "COMPILE_LEFT_RECURSIVE=4 COMPILE_NO_START=1 COMPILE_OK=0"
            + " COMPILE_UNDEFINED_RULE=2 COMPILE_UNPRODUCTIVE=3 MAX_ALTS=16 MAX_RULES=8 MAX_SYMBOLS=48"
            + " MAX_TERMINALS=16 PARSE_ACCEPT=0 PARSE_NOT_COMPILED=3 PARSE_REJECT=1 PARSE_TOO_BIG=2";

    public static void main(String[] args) {
        whatItIs();
        constants();
        face("public final class AdaptiveLlStar", FaceTest::members);
        face("public static final int", FaceTest::publicConstants);
        Check.end();
    }

    private static void whatItIs() {
        about("Grammar alternatives are fed one symbol a call and checked by `compile()`.", FaceTest::grammarIsFed);
        about("The input is fed one token a call.", FaceTest::inputIsFed);
        about("`parse()` answers whether the input is a sentence of the grammar.", FaceTest::answers);
        about("`parse()` finds the FIRST DERIVATION of the input", FaceTest::firstDerivation);
        about("unless that derivation has more than nodeLimit nodes, keeps it as a numbered tree",
                FaceTest::keepsUpToLimit);
        about("marks every AMBIGUOUS decision in it", FaceTest::marksEvery);
        about("If it is not, `parse()` reports how far the input can be read.", FaceTest::howFar);
        about("Terminals (token types) are the ints 0..15.", FaceTest::terminals);
        about("Rules are the ints 0..7, and rule 0 is the start rule.", FaceTest::rules);
    }

    private static void constants() {
        about("`MAX_RULES = 8`: rules 0..7.", FaceTest::maxRules);
        about("`MAX_TERMINALS = 16`: terminals 0..15.", FaceTest::maxTerminals);
        about("`MAX_ALTS = 16`: alternatives over all rules together.", FaceTest::maxAlts);
        about("`MAX_SYMBOLS = 48`: symbols over all alternatives together.", FaceTest::maxSymbols);
        about("`COMPILE_OK = 0`, `COMPILE_NO_START = 1`, `COMPILE_UNDEFINED_RULE = 2`, `COMPILE_UNPRODUCTIVE = 3`,"
                + " `COMPILE_LEFT_RECURSIVE = 4`.", FaceTest::compileCodes);
        about("`PARSE_ACCEPT = 0`, `PARSE_REJECT = 1`, `PARSE_TOO_BIG = 2`, `PARSE_NOT_COMPILED = 3`.",
                FaceTest::parseCodes);
    }

    private static void about(String words, Runnable test) {
        Check.sentence("What it is", words, test);
    }

    private static void face(String words, Runnable test) {
        Check.sentence("The public face", words, test);
    }

    private static void grammarIsFed() {
        AdaptiveLlStar x = new AdaptiveLlStar(12, 64);
        Check.same("compile() before the first call", x.compile(), 1);
        Check.same("beginAlt(0)", x.beginAlt(0), true);
        Check.same("compile() of an empty alternative", x.compile(), 0);
        Check.same("addRule(1)", x.addRule(1), true);
        Check.same("compile() with a rule that is not defined", x.compile(), 2);
        Check.same("beginAlt(1)", x.beginAlt(1), true);
        Check.same("addTerminal(3)", x.addTerminal(3), true);
        Check.same("compile() with it defined", x.compile(), 0);
        Check.same("addTerminal(2)", x.addTerminal(2), true);
        Check.same("compile()", x.compile(), 0);
        Check.accepts(x, "dc", "A10-2^-1 B10-2^0 d0-1^1 c1-2^1");
    }

    private static void inputIsFed() {
        AdaptiveLlStar x = Check.compiled("A=bA", "A=");
        for (int n = 0; n <= 12; n++) {
            Check.same("parse() of " + n, x.parse(), 0);
            Check.same("errorPosition()", x.errorPosition(), n);
            Check.same("token(1)", x.token(1), n < 12);
        }
    }

    // The sentences are those with as many b as a, the a before the b, and a c between them.
    private static void answers() {
        AdaptiveLlStar x = Check.compiled("A=aAb", "A=c");
        for (int length = 0; length <= 7; length++) {
            for (int number = 0; number < Math.pow(3, length); number++) {
                String tokens = inBase3(number, length);
                int half = length / 2;
                boolean isSentence = tokens.equals("a".repeat(half) + "c" + "b".repeat(half));
                Check.same("parse() of '" + tokens + "'", Check.parse(x, tokens), isSentence ? 0 : 1);
            }
        }
    }

    private static String inBase3(int number, int length) {
        StringBuilder text = new StringBuilder();
        int rest = number;
        for (int i = 0; i < length; i++) {
            text.append((char) ('a' + rest % 3));
            rest /= 3;
        }
        return text.toString();
    }

    private static void firstDerivation() {
        AdaptiveLlStar x = Check.compiled("A=aA", "A=aAbA", "A=c");
        Check.accepts(x, "aacbc", "A1!0-5^-1 a0-1^0 A21-5^0 a1-2^2 A32-3^2 c2-3^4 b3-4^2 A34-5^2 c4-5^7");
        AdaptiveLlStar y = Check.compiled("A=aAbA", "A=aA", "A=c");
        Check.accepts(y, "aacbc", "A1!0-5^-1 a0-1^0 A21-3^0 a1-2^2 A32-3^2 c2-3^4 b3-4^0 A34-5^0 c4-5^7");
    }

    // With k tokens the tree has one node for each token and one more than that for rules.
    private static void keepsUpToLimit() {
        for (int nodeLimit = 8; nodeLimit <= 64; nodeLimit++) {
            AdaptiveLlStar x = Check.compiledWithin(12, nodeLimit, "A=aA", "A=");
            for (int n = 0; n <= 12; n++) {
                int nodes = 2 * n + 1;
                boolean isKept = nodes <= nodeLimit;
                Check.same("parse() of " + n + " within " + nodeLimit, Check.parse(x, "a".repeat(n)), isKept ? 0 : 2);
                Check.same("nodeCount()", x.nodeCount(), isKept ? nodes : 0);
            }
        }
    }

    private static void marksEvery() {
        AdaptiveLlStar x = Check.compiled("A=BBBC", "B=a", "B=b", "B=a", "C=", "C=D", "D=");
        Check.accepts(x, "aaa", "A10-3^-1 B1!0-1^0 a0-1^1 B1!1-2^0 a1-2^3 B1!2-3^0 a2-3^5 C1!3-3^0");
        Check.accepts(x, "aba", "A10-3^-1 B1!0-1^0 a0-1^1 B21-2^0 b1-2^3 B1!2-3^0 a2-3^5 C1!3-3^0");
    }

    private static void howFar() {
        AdaptiveLlStar x = Check.compiled("A=abcdefghijkl");
        String whole = "abcdefghijkl";
        for (int length = 0; length < 12; length++) {
            Check.rejects(x, whole.substring(0, length), length);
            Check.rejects(x, whole.substring(0, length) + "p", length);
            Check.rejects(x, whole.substring(0, length) + "p".repeat(12 - length), length);
        }
    }

    private static void terminals() {
        for (int t = 0; t < 16; t++) {
            AdaptiveLlStar x = new AdaptiveLlStar(12, 64);
            x.beginAlt(0);
            Check.same("addTerminal(" + t + ")", x.addTerminal(t), true);
            Check.same("compile()", x.compile(), 0);
            Check.same("token(" + t + ")", x.token(t), true);
            Check.same("parse()", x.parse(), 0);
            Check.same("nodeSymbol(1)", x.nodeSymbol(1), t);
        }
        AdaptiveLlStar y = Check.grammar("A=");
        for (int t : Check.outside(0, 15)) {
            Check.same("addTerminal(" + t + ")", y.addTerminal(t), false);
            Check.same("token(" + t + ")", y.token(t), false);
        }
    }

    private static void rules() {
        for (int rule = 0; rule < 8; rule++) {
            AdaptiveLlStar x = new AdaptiveLlStar(12, 64);
            Check.same("beginAlt(" + rule + ")", x.beginAlt(rule), true);
            Check.same("compile()", x.compile(), rule == 0 ? 0 : 1);
            Check.same("addRule(" + rule + ")", x.addRule(rule), true);
        }
        AdaptiveLlStar y = Check.grammar("A=");
        for (int rule : Check.outside(0, 7)) {
            Check.same("beginAlt(" + rule + ")", y.beginAlt(rule), false);
            Check.same("addRule(" + rule + ")", y.addRule(rule), false);
        }
    }

    private static void maxRules() {
        Check.same("MAX_RULES", AdaptiveLlStar.MAX_RULES, 8);
        // All of them in one grammar.
        AdaptiveLlStar x = Check.compiled("A=BCDEFGH", "B=a", "C=b", "D=c", "E=d", "F=e", "G=f", "H=g");
        Check.accepts(x, "abcdefg", "A10-7^-1 B10-1^0 a0-1^1 C11-2^0 b1-2^3 D12-3^0 c2-3^5 E13-4^0 d3-4^7"
                + " F14-5^0 e4-5^9 G15-6^0 f5-6^11 H16-7^0 g6-7^13");
    }

    private static void maxTerminals() {
        Check.same("MAX_TERMINALS", AdaptiveLlStar.MAX_TERMINALS, 16);
        // All of them in one grammar.
        AdaptiveLlStar x = Check.compiled("A=aA", "A=BC", "B=bcdefghi", "C=jklmnop", "C=");
        Check.accepts(x, "bcdefghi", "A20-8^-1 B10-8^0 b0-1^1 c1-2^1 d2-3^1 e3-4^1 f4-5^1 g5-6^1 h6-7^1 i7-8^1"
                + " C28-8^0");
        Check.rejects(x, "bcdefghijklm", 12);
    }

    private static void maxAlts() {
        Check.same("MAX_ALTS", AdaptiveLlStar.MAX_ALTS, 16);
        for (int spread = 1; spread <= 8; spread++) {
            AdaptiveLlStar x = new AdaptiveLlStar(12, 64);
            for (int i = 0; i < 20; i++) {
                Check.same("beginAlt " + i + " over " + spread, x.beginAlt(i % spread), i < 16);
            }
        }
    }

    private static void maxSymbols() {
        Check.same("MAX_SYMBOLS", AdaptiveLlStar.MAX_SYMBOLS, 48);
        for (int each = 3; each <= 50; each++) {
            AdaptiveLlStar x = new AdaptiveLlStar(12, 64);
            for (int i = 0; i < 50; i++) {
                if (i % each == 0 && i < 48) {
                    Check.same("beginAlt before symbol " + i, x.beginAlt(i % 8), true);
                }
                boolean isAdded = i % 2 == 0 ? x.addTerminal(i % 16) : x.addRule(i % 8);
                Check.same("symbol " + i + ", " + each + " in each alternative", isAdded, i < 48);
            }
        }
    }

    private static void compileCodes() {
        Check.same("COMPILE_OK", AdaptiveLlStar.COMPILE_OK, 0);
        Check.same("COMPILE_NO_START", AdaptiveLlStar.COMPILE_NO_START, 1);
        Check.same("COMPILE_UNDEFINED_RULE", AdaptiveLlStar.COMPILE_UNDEFINED_RULE, 2);
        Check.same("COMPILE_UNPRODUCTIVE", AdaptiveLlStar.COMPILE_UNPRODUCTIVE, 3);
        Check.same("COMPILE_LEFT_RECURSIVE", AdaptiveLlStar.COMPILE_LEFT_RECURSIVE, 4);
        Check.same("compile() of A=a", Check.grammar("A=a").compile(), 0);
        Check.same("compile() of B=a", Check.grammar("B=a").compile(), 1);
        Check.same("compile() of A=B", Check.grammar("A=B").compile(), 2);
        Check.same("compile() of A=aA", Check.grammar("A=aA").compile(), 3);
        Check.same("compile() of A=Aa A=a", Check.grammar("A=Aa", "A=a").compile(), 4);
    }

    private static void parseCodes() {
        Check.same("PARSE_ACCEPT", AdaptiveLlStar.PARSE_ACCEPT, 0);
        Check.same("PARSE_REJECT", AdaptiveLlStar.PARSE_REJECT, 1);
        Check.same("PARSE_TOO_BIG", AdaptiveLlStar.PARSE_TOO_BIG, 2);
        Check.same("PARSE_NOT_COMPILED", AdaptiveLlStar.PARSE_NOT_COMPILED, 3);
        AdaptiveLlStar x = new AdaptiveLlStar(12, 8);
        Check.add(x, "A=aA", "A=b");
        Check.same("parse() before compile()", x.parse(), 3);
        Check.same("compile()", x.compile(), 0);
        Check.same("parse() of b", Check.parse(x, "b"), 0);
        Check.same("parse() of a", Check.parse(x, "a"), 1);
        Check.same("parse() of aaab", Check.parse(x, "aaab"), 0);
        Check.same("parse() of aaaab", Check.parse(x, "aaaab"), 2);
    }

    private static void members() {
        Check.same("modifiers", Modifier.toString(AdaptiveLlStar.class.getModifiers()), "public final");
        Check.same("above it", AdaptiveLlStar.class.getSuperclass().getName(), "java.lang.Object");
        Check.same("interfaces", AdaptiveLlStar.class.getInterfaces().length, 0);
        TreeSet<String> open = new TreeSet<>();
        for (Constructor<?> made : AdaptiveLlStar.class.getDeclaredConstructors()) {
            Check.same("modifiers of " + made, Modifier.toString(made.getModifiers()), "public");
            open.add("AdaptiveLlStar" + types(made.getParameterTypes()));
        }
        for (Method method : AdaptiveLlStar.class.getDeclaredMethods()) {
            if (!Modifier.isPrivate(method.getModifiers())) {
                Check.same("modifiers of " + method, Modifier.toString(method.getModifiers()), "public");
                open.add(method.getReturnType() + " " + method.getName() + types(method.getParameterTypes()));
            }
        }
        Check.same("public face", String.join(" ", open), FACE);
    }

    private static String types(Class<?>[] parameters) {
        return Arrays.stream(parameters).map(Class::toString).collect(Collectors.joining(",", "(", ")"));
    }

    private static void publicConstants() {
        TreeSet<String> open = new TreeSet<>();
        for (Field field : AdaptiveLlStar.class.getDeclaredFields()) {
            if (!Modifier.isPrivate(field.getModifiers())) {
                Check.same(field.getName(), Modifier.toString(field.getModifiers()), "public static final");
                Check.same("type of " + field.getName(), field.getType().toString(), "int");
                open.add(field.getName() + "=" + valueOf(field));
            }
        }
        Check.same("public constants", String.join(" ", open), CONSTANTS);
    }

    private static String valueOf(Field constant) {
        try {
            return String.valueOf(constant.get(null));
        } catch (ReflectiveOperationException | RuntimeException fault) {
            return fault.toString();
        }
    }
}
