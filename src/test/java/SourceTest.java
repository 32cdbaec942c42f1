import java.io.IOException;
import java.nio.charset.StandardCharsets;
import java.nio.file.Files;
import java.nio.file.Path;
import java.util.List;
import java.util.regex.Matcher;
import java.util.regex.Pattern;

/** What can be read off the source, line by line, of the rules of LANGUAGE.md. */
public final class SourceTest {
    private static final Path SOURCE = Path.of("src/main/java/Weightlattice.java");
    private static final List<String> BANNED = List.of(
        "->", "::", "@", "\\btry\\b", "\\bcatch\\b", "\\bfinally\\b", "\\bsynchronized\\b", "\\bassert\\b", "\\bpackage\\b",
        "\\bvolatile\\b", "\\bnative\\b", "\\bvar\\b", "\\bSystem\\b", "\\bMath\\.\\w+Exact\\b", "\\bRandom\\b",
        "\\bThread\\b", "static \\{", "\\bObject\\b", "\\bprotected\\b", "\\bimport java\\.(?!util\\.NoSuchElementException;)");
    private static final String THROWN = "(IllegalStateException|IllegalArgumentException|IndexOutOfBoundsException"
        + "|ArithmeticException|UnsupportedOperationException|NoSuchElementException)";

    private static int wrong = 0;

    private static void tell(int line, String text) {
        wrong++;
        System.out.println("line " + (line + 1) + ": " + text);
    }

    public static void main(String[] args) throws IOException {
        List<String> lines = Files.readAllLines(SOURCE, StandardCharsets.US_ASCII);
        int classes = 0;
        for (int k = 0; k < lines.size(); k++) {
            String code = withoutComment(lines.get(k));
            classes += Pattern.compile("\\bclass \\w+").matcher(code).find() ? 1 : 0;
            testBanned(k, code);
            testStatics(k, code);
        }
        if (classes > 12) {
            tell(0, classes + " classes");
        }
        testMethods(lines);
        System.out.println(wrong == 0 ? "all answers are as due" : wrong + " answers are wrong");
        System.exit(wrong == 0 ? 0 : 1);
    }

    private static String withoutComment(String line) {
        String trimmed = line.trim();
        if (trimmed.startsWith("/**") || trimmed.startsWith("*") || trimmed.startsWith("//")) {
            return "";
        }
        return line.replaceAll("\"[^\"]*\"", "\"\"");
    }

    private static void testBanned(int at, String code) {
        for (String banned : BANNED) {
            if (Pattern.compile(banned).matcher(code).find()) {
                tell(at, "has " + banned);
            }
        }
        if (code.contains("throw ") && !code.matches("\\s*throw new " + THROWN + "\\(\"\"\\);")) {
            tell(at, "throws otherwise");
        }
        if (code.contains("while (") && !code.contains(" && ")) {
            tell(at, "a loop without a bound");
        }
    }

    private static void testStatics(int at, String code) {
        boolean field = code.contains(" static ") && code.contains(" = ") && code.endsWith(";");
        if (field && !code.matches("\\s+private static final (int|long|boolean|char|String) [A-Z_]+ = [-\\w\"]+;")) {
            tell(at, "a static field that is no constant");
        }
    }

    /** Methods are short, take few parameters, and make rows in constructors alone. */
    private static void testMethods(List<String> lines) {
        Pattern head = Pattern.compile("^( {4}| {8})(?! )(?!.*\\bclass\\b)([^=;]*)\\((.*)\\).* \\{$");
        int from = -1;
        String indent = "";
        boolean constructor = false;
        for (int k = 0; k < lines.size(); k++) {
            Matcher matcher = head.matcher(lines.get(k));
            if (from < 0 && matcher.matches()) {
                from = k;
                indent = matcher.group(1);
                constructor = matcher.group(2).trim().matches("(public )?[A-Z]\\w*");
                if (matcher.group(3).split(",").length > 7) {
                    tell(k, "too many parameters");
                }
            }
            String code = withoutComment(lines.get(k));
            if (code.contains("new ") && !code.contains("throw new ") && !constructor) {
                tell(k, "makes something outside a constructor");
            }
            if (constructor && code.contains("throw ")) {
                tell(k, "throws in a constructor");
            }
            if (from >= 0 && lines.get(k).equals(indent + "}")) {
                if (k - from > 60) {
                    tell(from, "a long method");
                }
                from = -1;
                constructor = false;
            }
        }
    }
}
