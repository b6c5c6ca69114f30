import java.lang.reflect.InvocationTargetException;
import java.lang.reflect.Method;
import java.nio.file.Files;
import java.nio.file.Path;
import java.util.List;
import java.util.Set;
import java.util.TreeSet;
import java.util.regex.Matcher;
import java.util.regex.Pattern;
import java.util.stream.Stream;

/** Each example of README.md gives the answer that stands behind it, and no call of the face is left out. */
public final class ReadmeTest {
    private static final Pattern MADE = Pattern.compile("BoredPipes x = new BoredPipes\\(\\);");
    private static final Pattern CALL = Pattern.compile("x\\.(\\w+)\\(([^)]*)\\);\\s*// (-?\\d+|[A-Z]+)(:.*)?");
    private static final Pattern CONSTANT = Pattern.compile("`([A-Z]+)` \\((-\\d+)\\)");
    private static final int MOST_CALLS = 512;

    private static final Set<String> shown = new TreeSet<>();
    private static BoredPipes x = null;
    private static int calls = 0;
    private static int examples = 0;
    private static int wrong = 0;

    private static void holds(boolean so, String what) {
        if (so) return;
        wrong++;
        System.out.println("README.md: " + what);
    }

    private static boolean isNumber(String word) {
        return word.matches("-?\\d+");
    }

    private static long constant(String name) throws ReflectiveOperationException {
        return BoredPipes.class.getField(name).getInt(null);
    }

    private static long number(String word) throws ReflectiveOperationException {
        return isNumber(word) ? Long.parseLong(word) : constant(word);
    }

    private static Object argument(String word, Class<?> type) throws ReflectiveOperationException {
        if (type == boolean.class) {
            holds(word.equals("true") || word.equals("false"), "neither true nor false: " + word);
            return word.equals("true");
        }
        holds(isNumber(word) || word.startsWith("BoredPipes."), "not a number that compiles: " + word);
        return (int) number(word.replace("BoredPipes.", ""));
    }

    private static Method methodOf(String name) {
        for (Method m : BoredPipes.class.getMethods()) {
            if (m.getDeclaringClass() == BoredPipes.class && m.getName().equals(name)) return m;
        }
        return null;
    }

    private static long answer(String name, String inside) throws ReflectiveOperationException {
        Method m = methodOf(name);
        if (m == null) throw new NoSuchMethodException("README.md calls " + name);
        String[] words = inside.isEmpty() ? new String[0] : inside.split(", ");
        Class<?>[] types = m.getParameterTypes();
        if (words.length != types.length) throw new NoSuchMethodException("README.md calls " + name + " otherwise");
        Object[] arguments = new Object[words.length];
        for (int i = 0; i < words.length; i++) arguments[i] = argument(words[i], types[i]);
        return ((Number) m.invoke(x, arguments)).longValue();
    }

    private static void example(String line) throws ReflectiveOperationException {
        if (MADE.matcher(line).lookingAt()) {
            x = new BoredPipes();
            calls = 0;
            return;
        }
        Matcher call = CALL.matcher(line);
        holds(call.matches(), "no example with its answer: " + line);
        if (!call.matches()) return;
        holds(x != null, "no object was made for: " + line);
        holds(++calls <= MOST_CALLS, "more calls than an object is used for");
        examples++;
        shown.add(call.group(1));
        long got = answer(call.group(1), call.group(2));
        holds(got == number(call.group(3)), line.trim() + " -- but the class answers " + got);
    }

    private static void examples(List<String> lines) throws ReflectiveOperationException {
        boolean code = false;
        for (String line : lines) {
            boolean mark = line.startsWith("```");
            if (mark) code = line.equals("```java");
            if (mark || !code || line.isBlank()) continue;
            example(line);
        }
    }

    private static void allCallsShown() {
        for (Method m : BoredPipes.class.getMethods()) {
            if (m.getDeclaringClass() != BoredPipes.class) continue;
            holds(shown.contains(m.getName()), "no example of " + m.getName());
        }
    }

    private static void constants(String text) throws ReflectiveOperationException {
        Matcher told = CONSTANT.matcher(text);
        Set<String> names = new TreeSet<>();
        while (told.find()) {
            names.add(told.group(1));
            holds(constant(told.group(1)) == Long.parseLong(told.group(2)), told.group() + " is not so");
        }
        holds(names.size() == BoredPipes.class.getFields().length, "constants told are " + names);
    }

    private static void testsTold(String text) throws java.io.IOException {
        holds(text.contains("    .ci/run\n"), "how the tests are run is not told");
        try (Stream<Path> tests = Files.list(Path.of("src/test/java"))) {
            for (Path test : (Iterable<Path>) tests::iterator) {
                String name = test.getFileName().toString().replace(".java", "");
                holds(text.contains("`" + name + "`"), "nothing of " + name);
            }
        }
    }

    public static void main(String[] args) throws Exception {
        Path readme = Path.of("README.md");
        try {
            examples(Files.readAllLines(readme));
        } catch (InvocationTargetException e) {
            holds(false, "an example throws " + e.getCause());
        }
        allCallsShown();
        constants(Files.readString(readme));
        testsTold(Files.readString(readme));
        System.out.println(examples + " examples of README.md, " + wrong + " wrong");
        if (wrong != 0) System.exit(1);
    }
}
