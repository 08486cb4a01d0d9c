import java.io.IOException;
import java.lang.reflect.Method;
import java.lang.reflect.Modifier;
import java.nio.file.Files;
import java.nio.file.Path;
import java.util.ArrayList;
import java.util.List;
import java.util.regex.Matcher;
import java.util.regex.Pattern;
import java.util.stream.Stream;

/** README.md shows the answers that the class gives, and leaves out no call, no code and no test. */
public final class ReadmeTest {
    private static final Path README = Path.of("README.md");
    private static final Path TESTS = Path.of("src/test/java");
    private static final String NEW_OBJECT = "ColourKinds x = new ColourKinds();";
    private static final Pattern CALL = Pattern.compile("x\\.(\\w+)\\(([-\\d, ]*)\\); +// ([-\\w]+)(: .*)?");
    private static final int CALLS_PROMISED = 512;

    private static int wrong = 0;

    private static void require(boolean holds, String what) {
        if (!holds) {
            wrong++;
            System.out.println(what);
        }
    }

    private static String answer(ColourKinds x, String name, String arguments) throws ReflectiveOperationException {
        List<Object> numbers = new ArrayList<>();
        for (String argument : arguments.isEmpty() ? new String[0] : arguments.split(", ")) {
            numbers.add(Integer.valueOf(argument));
        }
        Class<?>[] types = numbers.stream().map(number -> int.class).toArray(Class<?>[]::new);
        return ColourKinds.class.getMethod(name, types).invoke(x, numbers.toArray()).toString();
    }

    private static String value(String shown) throws ReflectiveOperationException {
        boolean code = shown.matches("[A-Z_]+");
        return code ? String.valueOf(ColourKinds.class.getField(shown).getInt(null)) : shown;
    }

    private static int examples(List<String> lines) throws ReflectiveOperationException {
        boolean java = false;
        ColourKinds x = null;
        int calls = 0;
        int all = 0;
        for (String line : lines) {
            if (line.startsWith("```")) {
                java = line.equals("```java");
                x = null;
            } else if (java && line.equals(NEW_OBJECT)) {
                x = new ColourKinds();
                calls = 0;
            } else if (java) {
                Matcher call = CALL.matcher(line);
                boolean known = call.matches() && x != null && calls < CALLS_PROMISED;
                require(known, "neither a new object nor a call with its answer: " + line);
                if (known) {
                    calls++;
                    all++;
                    String got = answer(x, call.group(1), call.group(2));
                    require(got.equals(value(call.group(3))), "the class answers " + got + " here: " + line);
                }
            }
        }
        return all;
    }

    private static void callsAreNamed(String text) {
        for (Method method : ColourKinds.class.getDeclaredMethods()) {
            boolean shown = !Modifier.isPublic(method.getModifiers()) || text.contains("| `" + method.getName() + "(");
            require(shown, "not in the list of calls: " + method.getName());
        }
    }

    private static void codesAreNamed(String text) {
        require(text.contains("`BAD_ARG` (" + ColourKinds.BAD_ARG + ")"), "BAD_ARG is not told");
        require(text.contains("`FULL` (" + ColourKinds.FULL + ")"), "FULL is not told");
        require(text.contains("`NONE` (" + ColourKinds.NONE + ")"), "NONE is not told");
    }

    private static void testsAreNamed(String text) throws IOException {
        try (Stream<Path> files = Files.list(TESTS)) {
            for (Path file : files.toList()) {
                String name = file.getFileName().toString().replace(".java", "");
                require(text.contains("- `" + name + "` "), "not in the list of tests: " + name);
            }
        }
    }

    public static void main(String[] args) throws IOException, ReflectiveOperationException {
        String text = Files.readString(README);
        int calls = examples(text.lines().toList());
        require(calls > 0, "no call is shown");
        callsAreNamed(text);
        codesAreNamed(text);
        testsAreNamed(text);
        System.out.println(wrong == 0 ? "all " + calls + " calls shown answer as shown" : wrong + " faults in the file");
        if (wrong != 0) {
            System.exit(1);
        }
    }
}
