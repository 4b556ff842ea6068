import java.io.IOException;
import java.lang.reflect.Constructor;
import java.lang.reflect.Field;
import java.lang.reflect.Method;
import java.lang.reflect.Modifier;
import java.nio.file.Files;
import java.nio.file.Path;
import java.util.ArrayList;
import java.util.List;
import java.util.Map;
import java.util.TreeMap;
import java.util.TreeSet;
import java.util.regex.Matcher;
import java.util.regex.Pattern;

/** The public face of the document, and the rules of LANGUAGE.md as far as a test can see them. */
public final class LanguageTest {
    private static final Path SOURCE = Path.of("src/main/java/AdaptiveLlStar.java");
    private static final String FACE = "AdaptiveLlStar(int,int)"
            + " boolean addRule(int) boolean addTerminal(int) boolean beginAlt(int) boolean nodeAmbiguous(int)"
            + " boolean token(int) int compile() int errorPosition() int nodeAlt(int) int nodeCount()"
            + " int nodeEnd(int) int nodeParent(int) int nodeStart(int) int nodeSymbol(int) int parse()"
            + " void clearGrammar() void clearInput()";
    private static final String CONSTANTS = "COMPILE_LEFT_RECURSIVE=4 COMPILE_NO_START=1 COMPILE_OK=0"
            + " COMPILE_UNDEFINED_RULE=2 COMPILE_UNPRODUCTIVE=3 MAX_ALTS=16 MAX_RULES=8 MAX_SYMBOLS=48"
            + " MAX_TERMINALS=16 PARSE_ACCEPT=0 PARSE_NOT_COMPILED=3 PARSE_REJECT=1 PARSE_TOO_BIG=2";
    private static final String FORBIDDEN = "import|package|throw|throws|try|catch|finally|synchronized|assert"
            + "|instanceof|null|float|double|String|Math|Integer|Long|System|Arrays|Object|interface|enum|record"
            + "|var|protected|->|::|\"|equals|hashCode|getClass|clone|toString";
    private static final Pattern METHOD = Pattern.compile(
            "\n    (?:public|private) (?:static )?(?:int|boolean|void) (\\w+)\\(([^)]*)\\) \\{\n(.*?)\n    \\}\n",
            Pattern.DOTALL);
    private static final Pattern CALL = Pattern.compile("(\\w+)\\(");

    public static void main(String[] args) throws IOException, IllegalAccessException {
        face();
        constants();
        fields();
        String code = Files.readString(SOURCE).replaceAll("(?s)/\\*.*?\\*/", "").replaceAll("//[^\n]*", "");
        words(code);
        arrays(code);
        methods(code);
        Check.end();
    }

    private static void face() {
        Check.same("modifiers", Modifier.toString(AdaptiveLlStar.class.getModifiers()), "public final");
        Check.same("nested classes", AdaptiveLlStar.class.getDeclaredClasses().length, 0);
        TreeSet<String> open = new TreeSet<>();
        TreeSet<String> closed = new TreeSet<>();
        for (Constructor<?> made : AdaptiveLlStar.class.getDeclaredConstructors()) {
            open.add("AdaptiveLlStar" + types(made.getParameterTypes()));
        }
        for (Method method : AdaptiveLlStar.class.getDeclaredMethods()) {
            boolean isPrivate = Modifier.isPrivate(method.getModifiers());
            String name = method.getReturnType() + " " + method.getName() + types(method.getParameterTypes());
            (isPrivate ? closed : open).add(isPrivate ? method.getName() : name);
            Check.same("at most seven parameters: " + name, method.getParameterCount() <= 7, true);
        }
        Check.same("public face", String.join(" ", open), FACE);
        for (String name : closed) {
            Check.same("no private method has a public name: " + name, FACE.contains(" " + name + "("), false);
        }
    }

    private static String types(Class<?>[] parameters) {
        List<String> names = new ArrayList<>();
        for (Class<?> parameter : parameters) {
            names.add(parameter.toString());
        }
        return "(" + String.join(",", names) + ")";
    }

    private static void constants() throws IllegalAccessException {
        TreeSet<String> open = new TreeSet<>();
        for (Field field : AdaptiveLlStar.class.getDeclaredFields()) {
            if (!Modifier.isPrivate(field.getModifiers())) {
                Check.same(field.getName(), Modifier.toString(field.getModifiers()), "public static final");
                open.add(field.getName() + "=" + field.getInt(null));
            }
        }
        Check.same("public constants", String.join(" ", open), CONSTANTS);
    }

    private static void fields() {
        int count = 0;
        for (Field field : AdaptiveLlStar.class.getDeclaredFields()) {
            boolean isStatic = Modifier.isStatic(field.getModifiers());
            Class<?> type = field.getType();
            Class<?> element = type.isArray() ? type.getComponentType() : type;
            Check.same("whole numbers or booleans: " + field.getName(), element.isPrimitive(), true);
            if (isStatic) {
                Check.same("static is final: " + field.getName(), Modifier.isFinal(field.getModifiers()), true);
                Check.same("static is int or long: " + field.getName(), type == int.class || type == long.class, true);
            }
            count += isStatic ? 0 : 1;
        }
        Check.same("at most forty fields", count <= 40, true);
    }

    private static void words(String code) {
        for (String word : FORBIDDEN.split("\\|")) {
            boolean isName = Character.isLetter(word.charAt(0));
            Pattern pattern = Pattern.compile(isName ? "\\b" + word + "\\b" : Pattern.quote(word));
            Check.same("the code has no " + word, pattern.matcher(code).find(), false);
        }
    }

    private static void arrays(String code) {
        for (String line : code.split("\n")) {
            boolean made = line.matches("    private final (int|boolean)\\[] \\w+ = new \\1\\[[A-Z_]+];");
            Check.same("arrays are made in fields alone: " + line, line.matches(".*\\bnew\\b.*"), made);
        }
    }

    private static void methods(String code) {
        Map<String, TreeSet<String>> calls = new TreeMap<>();
        Matcher method = METHOD.matcher(code.replace("\n", "\n\n"));
        for (int from = 0; method.find(from); from = method.end(3)) {
            String body = method.group(3);
            TreeSet<String> called = new TreeSet<>();
            for (Matcher call = CALL.matcher(body); call.find();) {
                called.add(call.group(1));
                noCallInArguments(body, call.end());
            }
            calls.put(method.group(1), called);
            Check.same("short: " + method.group(1), body.split("\n+").length <= 60, true);
        }
        int declared = AdaptiveLlStar.class.getDeclaredMethods().length;
        Check.same("methods that the pattern finds", calls.size(), declared);
        for (String name : calls.keySet()) {
            boolean shallow = depth(name, calls, 0) <= 6;
            Check.same("at most six calls deep and no recursion: " + name, shallow, true);
        }
    }

    private static void noCallInArguments(String body, int from) {
        int open = 1;
        int end = from;
        while (open > 0 && end < body.length()) {
            open += body.charAt(end) == '(' ? 1 : body.charAt(end) == ')' ? -1 : 0;
            end++;
        }
        String arguments = body.substring(from, end);
        Check.same("no call inside arguments: " + arguments, CALL.matcher(arguments).find(), false);
    }

    private static int depth(String name, Map<String, TreeSet<String>> calls, int above) {
        int deepest = 1;
        if (above <= 10) {
            for (String called : calls.getOrDefault(name, new TreeSet<>())) {
                deepest = Math.max(deepest, 1 + depth(called, calls, above + 1));
            }
        }
        return deepest;
    }
}
