import java.io.IOException;
import java.lang.reflect.Method;
import java.lang.reflect.Modifier;
import java.nio.file.Files;
import java.nio.file.Path;
import java.util.HashMap;
import java.util.List;
import java.util.Map;
import java.util.regex.Matcher;
import java.util.regex.Pattern;
import java.util.stream.Collectors;
import java.util.stream.Stream;

/** README.md: each answer that it tells is given, each call and each test is named. */
final class ReadmeTest {
    private static final Checks CHECKS = new Checks();
    private static final Path README = Path.of("README.md");
    private static final Pattern CALL = Pattern.compile("x\\.(\\w+)\\((.*)\\); +// (-?\\d+): .+");
    private static final String NEW_OBJECT = "BattleBench x = new BattleBench();";
    private static final Pattern TEXT = Pattern.compile("String text = \"(.*)\";");
    private static final List<String> TYPING =
        List.of("for (int i = 0; i < text.length(); i++) {", "    x.type(text.charAt(i));", "}");
    private static final Map<String, Method> FACE = new HashMap<>();

    public static void main(String[] args) throws Exception {
        for (Method method : BattleBench.class.getDeclaredMethods()) {
            if (Modifier.isPublic(method.getModifiers())) {
                FACE.put(method.getName(), method);
            }
        }
        examplesHold();
        allCallsAreNamed();
        allTestsAreNamed();
        CHECKS.end();
    }

    private static void examplesHold() throws Exception {
        BattleBench x = null;
        boolean isExample = false;
        for (String line : Files.readAllLines(README)) {
            if (line.startsWith("```")) {
                isExample = line.equals("```java");
            } else if (isExample && line.equals(NEW_OBJECT)) {
                x = new BattleBench();
            } else if (isExample && !TYPING.contains(line)) {
                follow(x, line);
            }
        }
    }

    private static void follow(BattleBench x, String line) throws Exception {
        Matcher text = TEXT.matcher(line);
        if (text.matches()) {
            Checks.type(x, text.group(1));
            return;
        }
        Matcher call = CALL.matcher(line);
        boolean isCall = call.matches();
        CHECKS.due("a call with its answer: " + line, isCall ? 1 : 0, 1);
        if (isCall) {
            CHECKS.due(line, answer(x, call.group(1), call.group(2)), Long.parseLong(call.group(3)));
        }
    }

    private static long answer(BattleBench x, String name, String told) throws Exception {
        if (told.startsWith("'")) {
            return x.type(told.charAt(1));
        }
        Method method = FACE.get(name);
        String[] values = told.isEmpty() ? new String[0] : told.split(", ");
        Object[] arguments = new Object[values.length];
        for (int a = 0; a < values.length; a++) {
            boolean isLong = method.getParameterTypes()[a] == long.class;
            arguments[a] = isLong ? (Object) Long.valueOf(values[a]) : (Object) Integer.valueOf(values[a]);
        }
        return (int) method.invoke(x, arguments);
    }

    private static void allCallsAreNamed() throws IOException {
        String text = Files.readString(README);
        for (String name : FACE.keySet()) {
            boolean isNamed = Pattern.compile("`" + name + "\\([a-z, ]*\\)`").matcher(text).find();
            CHECKS.due("README.md names " + name, isNamed ? 1 : 0, 1);
        }
    }

    private static void allTestsAreNamed() throws IOException {
        String text = Files.readString(README);
        List<Path> files;
        try (Stream<Path> all = Files.list(Path.of("src/test/java"))) {
            files = all.collect(Collectors.toList());
        }
        for (Path file : files) {
            String name = file.getFileName().toString().replace(".java", "");
            CHECKS.due("README.md names " + name, text.contains("`" + name) ? 1 : 0, 1);
        }
    }
}
