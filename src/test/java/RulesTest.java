import java.nio.file.Files;
import java.nio.file.Path;
import java.util.List;
import java.util.regex.Matcher;
import java.util.regex.Pattern;

/** What of ../shared/LANGUAGE.md can be seen in the text of the class. */
final class RulesTest {
    private static final Path SOURCE = Path.of("src/main/java/BattleBench.java");
    private static final String[] RULED_OUT = {
        "\\bpackage\\b", "\\bimport\\b", "->", "::", "\\btry\\b", "\\bcatch\\b", "\\bfinally\\b", "\\bthrows?\\b",
        "\\bassert\\b", "\\bsynchronized\\b", "\\bvolatile\\b", "\\bnative\\b", "\\bstatic\\s*\\{", "Exact\\b",
        "\\bSystem\\.(?!arraycopy\\b)", "\\b(Integer|Long)\\.[A-Z]", "\\bThread\\b",
        "\\bRandom\\b", "\\bhashCode\\b", "\\btoString\\b",
        "\\bprotected\\b", "\\bdouble\\b", "\\bfloat\\b", "\\binstanceof\\b", "\\bvar\\b",
    };

    public static void main(String[] args) throws Exception {
        Checks checks = new Checks();
        String text = Files.readString(SOURCE);
        String code = text.replaceAll("(?s)/\\*.*?\\*/", "").replaceAll("//[^\n]*", "");
        for (String ruledOut : RULED_OUT) {
            Matcher found = Pattern.compile(ruledOut).matcher(code);
            checks.due("without " + ruledOut, found.find() ? 1 : 0, 0);
        }
        checks.due("signs of ASCII alone", text.chars().anyMatch(c -> c > 126) ? 1 : 0, 0);
        long classes = Pattern.compile("\\bclass \\w+ ").matcher(code).results().count();
        checks.due("some twelve classes at most", classes <= 12 ? 1 : 0, 1);
        methodsAreShort(checks, Files.readAllLines(SOURCE));
        checks.end();
    }

    /** A method begins with a line that ends in ") {" and ends at the brace of the same depth. */
    private static void methodsAreShort(Checks checks, List<String> lines) {
        Pattern head = Pattern.compile(
            "^(    |        )(public|private|static|void|int|long|char|boolean|[A-Z]\\w*).*\\) \\{$");
        for (int i = 0; i < lines.size(); i++) {
            Matcher found = head.matcher(lines.get(i));
            if (found.matches()) {
                int end = i;
                while (end < lines.size() && !lines.get(end).equals(found.group(1) + "}")) {
                    end++;
                }
                checks.due("a short method: " + lines.get(i).trim(), end - i <= 60 ? 1 : 0, 1);
            }
        }
    }
}
