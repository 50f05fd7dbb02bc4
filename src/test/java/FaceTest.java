import java.lang.reflect.Constructor;
import java.lang.reflect.Field;
import java.lang.reflect.Method;
import java.lang.reflect.Modifier;
import java.util.Set;
import java.util.TreeSet;

/** The public face is the document's and no more. */
public final class FaceTest {
    private static final Set<String> METHODS = Set.of(
        "void begin()", "int append(int,int)", "int size()", "int outcome(int)", "int trial(int)",
        "void clearTrials()", "int mutants()", "int mutantAt(int)", "int mutantOp(int)",
        "int mutantNumber(int)", "int outcomeOf(int,int)", "int killers(int)", "int killed()",
        "int equalOnes()", "int killer(int)", "int needed()", "int leading()", "int numbers()");
    private static final Set<String> CONSTANTS = Set.of(
        "BAD_ARG=-10001", "FULL=-10002", "NONE=-10004", "TRAP=10001", "TIRED=10002", "EMPTY=10003");

    public static void main(String[] args) throws Exception {
        theClass();
        methods();
        fields();
        Checks.end();
    }

    private static void theClass() {
        int modifiers = MutantRunner.class.getModifiers();
        Checks.holds("the class is public and final", Modifier.isPublic(modifiers) && Modifier.isFinal(modifiers));
        Checks.due("nested classes", MutantRunner.class.getDeclaredClasses().length, 0);
        Constructor<?>[] constructors = MutantRunner.class.getDeclaredConstructors();
        Checks.due("constructors", constructors.length, 1);
        Checks.holds("the constructor is public, without parameters",
            Modifier.isPublic(constructors[0].getModifiers()) && constructors[0].getParameterCount() == 0);
    }

    private static void methods() {
        Set<String> found = new TreeSet<>();
        for (Method method : MutantRunner.class.getDeclaredMethods()) {
            if (!Modifier.isPrivate(method.getModifiers())) {
                found.add(signature(method));
                Checks.holds(method + " is public and not static",
                    Modifier.isPublic(method.getModifiers()) && !Modifier.isStatic(method.getModifiers()));
            }
        }
        Checks.holds("the methods are the document's, not " + found, found.equals(METHODS));
    }

    private static String signature(Method method) {
        StringBuilder parameters = new StringBuilder();
        for (Class<?> type : method.getParameterTypes()) {
            parameters.append(parameters.length() == 0 ? "" : ",").append(type.getName());
        }
        return method.getReturnType().getName() + " " + method.getName() + "(" + parameters + ")";
    }

    private static void fields() throws Exception {
        Set<String> found = new TreeSet<>();
        for (Field field : MutantRunner.class.getDeclaredFields()) {
            int modifiers = field.getModifiers();
            if (!Modifier.isPrivate(modifiers)) {
                boolean isConstant = Modifier.isPublic(modifiers) && Modifier.isStatic(modifiers) && Modifier.isFinal(modifiers);
                Checks.holds(field + " is a public constant", isConstant && field.getType() == int.class);
                found.add(field.getName() + "=" + field.get(isConstant ? null : new MutantRunner()));
            }
        }
        Checks.holds("the constants are the document's, not " + found, found.equals(CONSTANTS));
    }
}
