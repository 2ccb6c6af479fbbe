import java.lang.reflect.Field;
import java.lang.reflect.Method;
import java.lang.reflect.Modifier;
import java.nio.file.Files;
import java.nio.file.Path;
import java.util.List;
import java.util.regex.Matcher;
import java.util.regex.Pattern;

/** What of ../shared/LANGUAGE.md can be seen in the text of the class. */
final class RulesTest {
    private static final Path SOURCE = Path.of("src/main/java/BattleBench.java");
    private static final String[] RULED_OUT = {
        "\\bpackage\\b", "\\bimport\\b", "->", "::", "\\btry\\b", "\\bcatch\\b", "\\bfinally\\b", "\\bthrows?\\b",
        "\\bassert\\b", "\\bsynchronized\\b", "\\bvolatile\\b", "\\bnative\\b", "\\bstatic\\s*\\{", "Exact\\b",
        "\\bSystem\\.(?!arraycopy\\b)", "\\b(Integer|Long)\\.[A-Z]", "\\bThread\\b",
        "\\bRandom\\b", "\\bhashCode\\b", "\\btoString\\b",
        "\\bprotected\\b", "\\bdouble\\b", "\\bfloat\\b", "\\binstanceof\\b", "\\bvar\\b",
    };

    public static void main(String[] args) throws Exception {
        Checks checks = new Checks();
        String text = Files.readString(SOURCE);
        String code = text.replaceAll("(?s)/\\*.*?\\*/", "").replaceAll("//[^\n]*", "");
        for (String ruledOut : RULED_OUT) {
            Matcher found = Pattern.compile(ruledOut).matcher(code);
            checks.due("without " + ruledOut, found.find() ? 1 : 0, 0);
        }
        checks.due("signs of ASCII alone", text.chars().anyMatch(c -> c > 126) ? 1 : 0, 0);
        long classes = Pattern.compile("\\bclass \\w+ ").matcher(code).results().count();
        checks.due("some twelve classes at most", classes <= 12 ? 1 : 0, 1);
        methodsAreShort(checks, Files.readAllLines(SOURCE));
        classIsPlain(checks, BattleBench.class);
        for (Class<?> inside : BattleBench.class.getDeclaredClasses()) {
            int modifiers = inside.getModifiers();
            checks.due(inside + " is static", Modifier.isStatic(modifiers) ? 1 : 0, 1);
            checks.due(inside + " is not open", modifiers & (Modifier.PUBLIC | Modifier.PROTECTED), 0);
            classIsPlain(checks, inside);
        }
        checks.end();
    }

    /** Rules 3, 5 and 11: the types of fields, no static state, few fields and parameters. */
    private static void classIsPlain(Checks checks, Class<?> one) {
        int fields = 0;
        for (Field field : one.getDeclaredFields()) {
            String name = one.getName() + "." + field.getName();
            boolean isStatic = Modifier.isStatic(field.getModifiers());
            fields += isStatic ? 0 : 1;
            Class<?> type = field.getType();
            boolean isConstant = type == int.class || type == long.class || type == String.class;
            checks.due(name + " is a constant, if static", !isStatic || isConstant ? 1 : 0, 1);
            Class<?> core = type;
            while (core.isArray()) {
                core = core.getComponentType();
            }
            boolean isOwn = core.isPrimitive() || core == String.class || core.getName().startsWith("BattleBench");
            checks.due(name + " is of a plain type", isOwn ? 1 : 0, 1);
        }
        checks.due(one + " has few fields", fields <= 20 ? 1 : 0, 1);
        for (Method method : one.getDeclaredMethods()) {
            checks.due(method + " takes seven at most", method.getParameterCount() <= 7 ? 1 : 0, 1);
        }
    }

    /** A method begins with a line that ends in ") {" and ends at the brace of the same depth. */
    private static void methodsAreShort(Checks checks, List<String> lines) {
        Pattern head = Pattern.compile(
            "^(    |        )(public|private|static|void|int|long|char|boolean|[A-Z]\\w*).*\\) \\{$");
        for (int i = 0; i < lines.size(); i++) {
            Matcher found = head.matcher(lines.get(i));
            if (found.matches()) {
                int end = i;
                while (end < lines.size() && !lines.get(end).equals(found.group(1) + "}")) {
                    end++;
                }
                checks.due("a short method: " + lines.get(i).trim(), end - i <= 60 ? 1 : 0, 1);
            }
        }
    }
}
