import java.io.IOException;
import java.lang.reflect.Method;
import java.lang.reflect.Modifier;
import java.nio.file.Files;
import java.nio.file.Path;
import java.util.Arrays;
import java.util.Set;
import java.util.TreeSet;
import java.util.regex.Matcher;
import java.util.regex.Pattern;

/** The examples of README.md, which are one run of calls: each call answers what is written behind it. */
public final class ReadmeTest {
    private static final Pattern BLOCK = Pattern.compile("(?s)```java\n(.*?)```");
    private static final Pattern MAKE =
            Pattern.compile("AdaptiveLlStar x = new AdaptiveLlStar\\((-?\\d+), (-?\\d+)\\);");
    private static final Pattern CALL =
            Pattern.compile("x\\.(\\w+)\\((-?\\d+)?\\);(?:\\s+// answers (-?\\w+)(?:: .*)?)?");

    private static final Set<String> CALLED = new TreeSet<>();
    private static AdaptiveLlStar x = null;

    public static void main(String[] args) throws IOException {
        Matcher blocks = BLOCK.matcher(Files.readString(Path.of("README.md")));
        while (blocks.find()) {
            blocks.group(1).lines().forEach(ReadmeTest::run);
        }
        Check.same("README.md makes an object", x != null, true);
        Arrays.stream(AdaptiveLlStar.class.getDeclaredMethods()).forEach(ReadmeTest::told);
        Check.end();
    }

    // A method that README.md never names is one that its reader does not learn of.
    private static void told(Method method) {
        if (Modifier.isPublic(method.getModifiers())) {
            Check.same("README.md has an example of " + method.getName(), CALLED.contains(method.getName()), true);
        }
    }

    private static void run(String line) {
        Matcher make = MAKE.matcher(line);
        Matcher call = CALL.matcher(line);
        if (make.matches()) {
            x = new AdaptiveLlStar(Integer.parseInt(make.group(1)), Integer.parseInt(make.group(2)));
        } else if (x != null && call.matches()) {
            CALLED.add(call.group(1));
            String due = call.group(3) == null ? "nothing" : call.group(3);
            Check.same("README.md: " + line, answer(call.group(1), call.group(2)), valueOf(due));
        } else {
            Check.tell("README.md has a line that can't be run: " + line);
        }
    }

    private static String answer(String name, String argument) {
        try {
            Object got = argument == null
                    ? AdaptiveLlStar.class.getMethod(name).invoke(x)
                    : AdaptiveLlStar.class.getMethod(name, int.class).invoke(x, Integer.parseInt(argument));
            return got == null ? "nothing" : got.toString();
        } catch (ReflectiveOperationException fault) {
            return fault.toString();
        }
    }

    /** The number of a constant; anything else stands for itself. */
    private static String valueOf(String due) {
        try {
            return String.valueOf(AdaptiveLlStar.class.getField(due).getInt(null));
        } catch (ReflectiveOperationException none) {
            return due;
        }
    }
}
