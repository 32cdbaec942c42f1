import java.io.IOException;
import java.lang.reflect.InvocationTargetException;
import java.lang.reflect.Method;
import java.nio.charset.StandardCharsets;
import java.nio.file.Files;
import java.nio.file.Path;
import java.util.HashSet;
import java.util.List;
import java.util.Set;
import java.util.regex.Matcher;
import java.util.regex.Pattern;

/** What README.md says of calls and answers is what the class does: its examples are read and carried out. */
public final class ReadmeTest {
    private static final Path README = Path.of("README.md");
    private static final Path TESTS = Path.of("src/test/java");
    private static final Pattern CALL = Pattern.compile("hall\\.(\\w+)\\((.*)\\); +// ('.'|[-\\w]+(?:\\.\\d+)?)(:.*)?");

    private static int wrong = 0;

    private static void tell(String text) {
        wrong++;
        System.out.println(text);
    }

    public static void main(String[] args) throws IOException, IllegalAccessException {
        List<String> lines = Files.readAllLines(README, StandardCharsets.US_ASCII);
        Set<String> shown = new HashSet<>();
        Weightlattice hall = null;
        boolean inside = false;
        for (String line : lines) {
            if (line.startsWith("```")) {
                inside = line.equals("```java");
                hall = null;
            } else if (inside && line.equals("Weightlattice hall = new Weightlattice();")) {
                hall = new Weightlattice();
            } else if (inside) {
                testLine(hall, line, shown);
            }
        }
        testAllShown(shown);
        testListOfTests(lines);
        System.out.println(wrong == 0 ? "all answers are as due" : wrong + " answers are wrong");
        System.exit(wrong == 0 ? 0 : 1);
    }

    private static void testLine(Weightlattice hall, String line, Set<String> shown) throws IllegalAccessException {
        Matcher matcher = CALL.matcher(line);
        if (hall == null || !matcher.matches()) {
            tell("no call: " + line);
            return;
        }
        shown.add(matcher.group(1));
        String got = answer(hall, matcher.group(1), matcher.group(2));
        if (!got.equals(matcher.group(3))) {
            tell(line + " but it answered " + got);
        }
    }

    private static String answer(Weightlattice hall, String name, String given) throws IllegalAccessException {
        String[] texts = given.isEmpty() ? new String[0] : given.split(", ");
        for (Method method : Weightlattice.class.getMethods()) {
            if (method.getName().equals(name) && method.getParameterCount() == texts.length) {
                try {
                    Object answer = method.invoke(hall, arguments(method, texts));
                    return answer instanceof Character ? "'" + answer + "'" : String.valueOf(answer);
                } catch (InvocationTargetException e) {
                    return e.getCause().getClass().getSimpleName();
                }
            }
        }
        return "nothing: there is no such call";
    }

    private static Object[] arguments(Method method, String[] texts) {
        Object[] arguments = new Object[texts.length];
        for (int i = 0; i < texts.length; i++) {
            Class<?> kind = method.getParameterTypes()[i];
            if (kind == char.class) {
                arguments[i] = texts[i].charAt(1);
            } else if (kind == boolean.class) {
                arguments[i] = Boolean.valueOf(texts[i]);
            } else {
                arguments[i] = Integer.valueOf(texts[i]);
            }
        }
        return arguments;
    }

    private static void testAllShown(Set<String> shown) {
        for (Method method : Weightlattice.class.getDeclaredMethods()) {
            if (java.lang.reflect.Modifier.isPublic(method.getModifiers()) && !shown.contains(method.getName())) {
                tell("README.md does not show " + method.getName());
            }
        }
    }

    private static void testListOfTests(List<String> lines) throws IOException {
        Set<String> listed = new HashSet<>();
        for (String line : lines) {
            Matcher matcher = Pattern.compile("- `(\\w+)`: .*").matcher(line);
            if (matcher.matches()) {
                listed.add(matcher.group(1) + ".java");
            }
        }
        Set<String> there = new HashSet<>();
        try (var files = Files.list(TESTS)) {
            files.forEach(file -> there.add(file.getFileName().toString()));
        }
        if (!listed.equals(there)) {
            tell("README.md lists " + listed + ", there are " + there);
        }
    }
}
