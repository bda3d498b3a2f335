import java.io.IOException;
import java.lang.reflect.Field;
import java.lang.reflect.Method;
import java.lang.reflect.Modifier;
import java.nio.file.DirectoryStream;
import java.nio.file.Files;
import java.nio.file.Path;
import java.util.Set;
import java.util.TreeSet;
import java.util.regex.Matcher;
import java.util.regex.Pattern;

/** Makes the calls that README.md shows, and compares their answers with those that it tells. */
public final class ReadmeTest {
    private static final Path README = Path.of("README.md");
    private static final Path TESTS = Path.of("src/test/java");
    private static final String MAKING = "LozengeGrounds x = new LozengeGrounds();";
    private static final Pattern BLOCK = Pattern.compile("(?s)```java\n(.*?)```");
    private static final Pattern CALL = Pattern.compile("x\\.(\\w+)\\(([^()]*)\\);\\s+// (-?\\d+|[A-Z]+)(: \\S.*)?");

    private static int wrong = 0;
    private static int made = 0;
    private static final Set<String> shown = new TreeSet<>();

    private static void fault(String what) {
        wrong++;
        System.out.println(what);
    }

    private static void runBlocks(String text) throws ReflectiveOperationException {
        Matcher block = BLOCK.matcher(text);
        while (block.find()) {
            runBlock(block.group(1).split("\n"));
        }
    }

    private static void runBlock(String[] rows) throws ReflectiveOperationException {
        if (!rows[0].equals(MAKING)) {
            fault("a run does not start with a new object: " + rows[0]);
        }
        LozengeGrounds x = new LozengeGrounds();
        for (int i = 1; i < rows.length; i++) {
            Matcher row = CALL.matcher(rows[i]);
            if (!row.matches()) {
                fault("no call with its answer: " + rows[i]);
                continue;
            }
            long got = answer(x, row.group(1), row.group(2));
            if (got != toldAnswer(row.group(3))) {
                fault(rows[i] + " answered " + got);
            }
        }
    }

    private static long answer(LozengeGrounds x, String name, String given) throws ReflectiveOperationException {
        Method call = callOf(name);
        Class<?>[] types = call.getParameterTypes();
        String[] texts = given.isEmpty() ? new String[0] : given.split(", ");
        if (texts.length != types.length) {
            throw new IllegalStateException(name + " does not take " + given);
        }
        Object[] values = new Object[types.length];
        for (int i = 0; i < values.length; i++) {
            values[i] = valueOf(texts[i], types[i]);
        }
        made++;
        shown.add(name);
        return ((Number) call.invoke(x, values)).longValue();
    }

    private static Method callOf(String name) {
        for (Method call : LozengeGrounds.class.getDeclaredMethods()) {
            if (Modifier.isPublic(call.getModifiers()) && call.getName().equals(name)) {
                return call;
            }
        }
        throw new IllegalStateException("no such call: " + name);
    }

    private static Object valueOf(String text, Class<?> type) {
        if (type == boolean.class) {
            if (!text.equals("true") && !text.equals("false")) {
                throw new IllegalStateException("neither true nor false: " + text);
            }
            return text.equals("true");
        }
        // One by one, as ?: would make both a Long.
        if (type == long.class) {
            return Long.valueOf(text);
        }
        return Integer.valueOf(text);
    }

    private static long toldAnswer(String told) throws ReflectiveOperationException {
        if (Character.isUpperCase(told.charAt(0))) {
            return LozengeGrounds.class.getField(told).getInt(null);
        }
        return Long.parseLong(told);
    }

    private static void lookForAllCalls() {
        for (Method call : LozengeGrounds.class.getDeclaredMethods()) {
            if (Modifier.isPublic(call.getModifiers()) && !shown.contains(call.getName())) {
                fault("README.md does not show " + call.getName());
            }
        }
    }

    private static void lookForAllConstants(String text) throws ReflectiveOperationException {
        for (Field constant : LozengeGrounds.class.getFields()) {
            String row = "| `" + constant.getName() + "` | " + constant.getInt(null) + " | ";
            if (!text.contains("\n" + row)) {
                fault("README.md has no row " + row);
            }
        }
    }

    private static void lookForLongs(String text) {
        for (Method call : LozengeGrounds.class.getDeclaredMethods()) {
            boolean named = text.contains("`" + call.getName() + "`");
            if (Modifier.isPublic(call.getModifiers()) && call.getReturnType() == long.class && !named) {
                fault("README.md does not say that " + call.getName() + " answers a long");
            }
        }
    }

    private static void lookForAllTests(String text) throws IOException {
        try (DirectoryStream<Path> tests = Files.newDirectoryStream(TESTS, "*.java")) {
            for (Path test : tests) {
                String name = test.getFileName().toString().replace(".java", "");
                if (!text.contains("\n- `" + name + "`: ")) {
                    fault("README.md does not tell of " + name);
                }
            }
        }
        if (!text.contains("\n    .ci/run\n") || !Files.isExecutable(Path.of(".ci/run"))) {
            fault("README.md does not tell how to run the tests, or .ci/run is not executable");
        }
    }

    public static void main(String[] args) throws IOException, ReflectiveOperationException {
        String text = Files.readString(README);
        runBlocks(text);
        lookForAllCalls();
        lookForAllConstants(text);
        lookForLongs(text);
        lookForAllTests(text);
        System.out.println(made + " calls of README.md made, " + wrong + " faults");
        if (wrong != 0 || made == 0) {
            System.exit(1);
        }
    }
}
