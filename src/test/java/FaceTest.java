import java.lang.reflect.Constructor;
import java.lang.reflect.Field;
import java.lang.reflect.Method;
import java.lang.reflect.Modifier;
import java.nio.file.Files;
import java.nio.file.Path;
import java.util.Arrays;
import java.util.HashSet;
import java.util.Set;
import java.util.TreeSet;

/** The public face is the document's and no more; the source keeps to the rules that can be seen in its words. */
public final class FaceTest {
    private static final Set<String> METHODS = Set.of(
        "void begin()", "int append(int,int)", "int size()", "int outcome(int)", "int trial(int)",
        "void clearTrials()", "int mutants()", "int mutantAt(int)", "int mutantOp(int)",
        "int mutantNumber(int)", "int outcomeOf(int,int)", "int killers(int)", "int killed()",
        "int equalOnes()", "int killer(int)", "int needed()", "int leading()", "int numbers()");
    private static final Set<String> CONSTANTS = Set.of(
        "BAD_ARG=-10001", "FULL=-10002", "NONE=-10004", "TRAP=10001", "TIRED=10002", "EMPTY=10003");
    private static final Set<String> BANNED_WORDS = Set.of(
        "import", "package", "throw", "throws", "try", "catch", "finally", "synchronized", "assert",
        "instanceof", "null", "float", "double", "String", "Math", "Integer", "Long", "System", "Arrays",
        "Object", "enum", "record", "interface", "var", "protected", "native", "volatile", "transient");

    public static void main(String[] args) throws Exception {
        theClass();
        methods();
        fields();
        words();
        Checks.end();
    }

    private static void theClass() {
        int modifiers = MutantRunner.class.getModifiers();
        Checks.holds("the class is public and final", Modifier.isPublic(modifiers) && Modifier.isFinal(modifiers));
        Checks.due("nested classes", MutantRunner.class.getDeclaredClasses().length, 0);
        Constructor<?>[] constructors = MutantRunner.class.getDeclaredConstructors();
        Checks.due("constructors", constructors.length, 1);
        Checks.holds("the constructor is public, without parameters",
            Modifier.isPublic(constructors[0].getModifiers()) && constructors[0].getParameterCount() == 0);
    }

    private static void methods() {
        Set<String> found = new TreeSet<>();
        Set<String> publicNames = new HashSet<>();
        for (Method method : MutantRunner.class.getDeclaredMethods()) {
            if (!Modifier.isPrivate(method.getModifiers())) {
                found.add(signature(method));
                publicNames.add(method.getName());
                Checks.holds(method + " is public and not static",
                    Modifier.isPublic(method.getModifiers()) && !Modifier.isStatic(method.getModifiers()));
            }
        }
        Checks.holds("the methods are the document's, not " + found, found.equals(METHODS));
        for (Method method : MutantRunner.class.getDeclaredMethods()) {
            Checks.holds(method + " has at most seven parameters", method.getParameterCount() <= 7);
            if (Modifier.isPrivate(method.getModifiers())) {
                Checks.holds(method + " bears no public name", !publicNames.contains(method.getName()));
            }
        }
    }

    private static String signature(Method method) {
        StringBuilder parameters = new StringBuilder();
        for (Class<?> type : method.getParameterTypes()) {
            parameters.append(parameters.length() == 0 ? "" : ",").append(type.getName());
        }
        return method.getReturnType().getName() + " " + method.getName() + "(" + parameters + ")";
    }

    private static void fields() throws Exception {
        Set<String> found = new TreeSet<>();
        int inner = 0;
        for (Field field : MutantRunner.class.getDeclaredFields()) {
            int modifiers = field.getModifiers();
            if (Modifier.isStatic(modifiers)) {
                Checks.holds(field + " is a constant of int or long", Modifier.isFinal(modifiers)
                    && (field.getType() == int.class || field.getType() == long.class));
            } else {
                inner++;
            }
            if (!Modifier.isPrivate(modifiers)) {
                Checks.holds(field + " is a public constant", Modifier.isPublic(modifiers) && Modifier.isStatic(modifiers));
                found.add(field.getName() + "=" + field.get(null));
            }
        }
        Checks.holds("the constants are the document's, not " + found, found.equals(CONSTANTS));
        Checks.holds("at most forty fields", inner <= 40);
    }

    private static void words() throws Exception {
        String source = Files.readString(Path.of("src/main/java/MutantRunner.java"));
        String code = source.replaceAll("(?s)/\\*.*?\\*/", " ").replaceAll("//[^\n]*", " ");
        Set<String> banned = new TreeSet<>(Arrays.asList(code.split("[^A-Za-z0-9_]+")));
        banned.retainAll(BANNED_WORDS);
        Checks.holds("no banned word, but " + banned, banned.isEmpty());
        Checks.holds("no lambda or method reference", !code.contains("->") && !code.contains("::"));
        Checks.holds("no text", !code.contains("\""));
    }
}
