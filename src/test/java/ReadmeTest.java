import java.io.IOException;
import java.lang.reflect.Method;
import java.lang.reflect.Modifier;
import java.nio.file.DirectoryStream;
import java.nio.file.Files;
import java.nio.file.Path;
import java.util.List;
import java.util.Set;
import java.util.TreeSet;
import java.util.regex.Matcher;
import java.util.regex.Pattern;

/** What README.md shows of calls and answers is what the class answers, and it names every method and every test. */
public final class ReadmeTest {
    private static final Pattern CALL = Pattern.compile("x\\.(\\w+)\\(([-0-9, ]*)\\);\\s*// ([^:]+)(:.*)?");
    private static final String FIRST_LINE = "MutantRunner x = new MutantRunner();";

    public static void main(String[] args) throws Exception {
        String readme = Files.readString(Path.of("README.md"));
        everyMethodIsShown(exampleHolds(readme));
        everyTestIsNamed(readme);
        Checks.end();
    }

    /** Makes the calls of the java block; answers the names of the methods that it shows. */
    private static Set<String> exampleHolds(String readme) throws Exception {
        Set<String> shown = new TreeSet<>();
        MutantRunner x = new MutantRunner();
        for (String line : exampleLines(readme)) {
            Matcher call = CALL.matcher(line);
            if (call.matches()) {
                shown.add(call.group(1));
                callHolds(x, line, call);
            } else {
                Checks.holds("README.md: a call with its answer: " + line, line.isEmpty() || line.startsWith(FIRST_LINE));
            }
        }
        return shown;
    }

    private static List<String> exampleLines(String readme) {
        String[] parts = readme.split("```java\n|```\n");
        int examples = 0;
        String example = "";
        for (String part : parts) {
            if (part.startsWith(FIRST_LINE)) {
                examples++;
                example = part;
            }
        }
        Checks.due("README.md: examples", examples, 1);
        return example.lines().toList();
    }

    private static void callHolds(MutantRunner x, String line, Matcher call) throws Exception {
        String inside = call.group(2).trim();
        String[] given = inside.isEmpty() ? new String[0] : inside.split("\\s*,\\s*");
        Object[] arguments = new Object[given.length];
        Class<?>[] types = new Class<?>[given.length];
        for (int i = 0; i < given.length; i++) {
            arguments[i] = Integer.valueOf(given[i]);
            types[i] = int.class;
        }
        Method method = MutantRunner.class.getMethod(call.group(1), types);
        Object answer = method.invoke(x, arguments);
        if (method.getReturnType() != void.class) {
            Checks.due("README.md: " + line, (Integer) answer, answerShown(call.group(3).trim()));
        }
    }

    private static int answerShown(String text) throws Exception {
        if (text.matches("[A-Z_]+")) {
            return MutantRunner.class.getField(text).getInt(null);
        }
        return Integer.parseInt(text);
    }

    private static void everyMethodIsShown(Set<String> shown) {
        for (Method method : MutantRunner.class.getDeclaredMethods()) {
            if (Modifier.isPublic(method.getModifiers())) {
                Checks.holds("README.md shows " + method.getName(), shown.contains(method.getName()));
            }
        }
    }

    private static void everyTestIsNamed(String readme) throws IOException {
        try (DirectoryStream<Path> files = Files.newDirectoryStream(Path.of("src/test/java"), "*.java")) {
            for (Path file : files) {
                String name = file.getFileName().toString().replace(".java", "");
                Checks.holds("README.md names " + name, readme.contains("`" + name + "`"));
            }
        }
    }
}
