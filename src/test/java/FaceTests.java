import java.lang.reflect.Constructor;
import java.lang.reflect.Field;
import java.lang.reflect.Method;
import java.lang.reflect.Modifier;
import java.util.ArrayList;
import java.util.List;
import java.util.Set;
import java.util.TreeSet;

/** "The public face", and the rules of LANGUAGE.md that can be seen from the compiled class. */
final class FaceTests {
    private static final int PARAMETERS_MOST = 7;
    private static final int CLASSES_MOST = 12;
    private static final int FIELDS_MOST = 20;
    private static final String INDEX = " throws IndexOutOfBoundsException";
    private static final String ARGUMENT = " throws IllegalArgumentException";
    private static final String STATE = " throws IllegalStateException";
    private static final String INDEX_ARGUMENT = INDEX + ARGUMENT.replace(" throws ", ", ");
    private static final String ARGUMENT_STATE = ARGUMENT + STATE.replace(" throws ", ", ");
    private static final Set<String> FACE = Set.of(
        "int appendText(int)" + STATE,
        "int truncateText(int)" + ARGUMENT,
        "int load()",
        "int errorCode()",
        "int errorPosition()",
        "int addThread(int, int, int)" + ARGUMENT_STATE,
        "int addInstruction(int, int, int)" + INDEX_ARGUMENT + STATE.replace(" throws ", ", "),
        "int setBase(int, int)" + INDEX_ARGUMENT,
        "int set(int, int)" + ARGUMENT,
        "void seed(int)" + ARGUMENT,
        "boolean setFlag(int, boolean)" + INDEX,
        "int count(int)" + ARGUMENT,
        "int thread(int, int)" + INDEX_ARGUMENT,
        "int instruction(int, int, int)" + INDEX_ARGUMENT,
        "int lock(int, int)" + INDEX,
        "boolean flag(int)" + INDEX,
        "int event(int, int)" + INDEX_ARGUMENT,
        "int events(int, int)" + INDEX_ARGUMENT,
        "int wake(int)" + INDEX,
        "int interrupt(int)" + INDEX,
        "boolean rouse(int)" + INDEX,
        "int run(int)" + ARGUMENT,
        "int next()",
        "int chain(int, int)" + INDEX,
        "int stuck()",
        "float lent(int)" + INDEX,
        "double busy()",
        "int doneIn(int, int)" + INDEX_ARGUMENT,
        "int returnsIn(int, int)" + INDEX_ARGUMENT,
        "int ahead(int, int)" + ARGUMENT,
        "int bestBase(int, int)" + INDEX_ARGUMENT,
        "void save(int)" + ARGUMENT,
        "void restore(int)" + ARGUMENT_STATE);

    private FaceTests() {
    }

    static void run() {
        Check.test("the public face: every method, and no other", FaceTests::methods);
        Check.test("the public face: the class, its constructor and its constant", FaceTests::classAndConstant);
        Check.test("rule 1: no other member can be seen", FaceTests::nothingElse);
        Check.test("rule 5: static fields are final", FaceTests::staticFields);
        Check.test("rule 11: parameters, classes, fields", FaceTests::sizes);
    }

    private static String told(Method method) {
        List<String> parameters = new ArrayList<>();
        for (Class<?> type : method.getParameterTypes()) {
            parameters.add(type.getName());
        }
        List<String> exceptions = new ArrayList<>();
        for (Class<?> type : method.getExceptionTypes()) {
            exceptions.add(type.getSimpleName());
        }
        return method.getReturnType().getName() + " " + method.getName() + "(" + String.join(", ", parameters) + ")"
            + (exceptions.isEmpty() ? "" : " throws " + String.join(", ", exceptions));
    }

    private static void methods() {
        Set<String> got = new TreeSet<>();
        for (Method method : PermitPark.class.getDeclaredMethods()) {
            if (Modifier.isPublic(method.getModifiers())) {
                got.add(told(method));
                Check.due(method.getName() + " is static", Modifier.isStatic(method.getModifiers()), false);
            }
        }
        Check.dueText("the face", got.toString(), new TreeSet<>(FACE).toString());
    }

    private static void classAndConstant() {
        int modifiers = PermitPark.class.getModifiers();
        Check.due("public and final", Modifier.isPublic(modifiers) && Modifier.isFinal(modifiers), true);
        Check.dueText("the package", PermitPark.class.getPackageName(), "");
        Check.dueText("the class above", PermitPark.class.getSuperclass().getName(), "java.lang.Object");
        Check.due("interfaces", PermitPark.class.getInterfaces().length, 0);
        Constructor<?>[] constructors = PermitPark.class.getDeclaredConstructors();
        Check.due("constructors", constructors.length, 1);
        Check.due("public", Modifier.isPublic(constructors[0].getModifiers()), true);
        Check.due("parameters", constructors[0].getParameterCount(), 0);
        StringBuilder constants = new StringBuilder();
        for (Field field : PermitPark.class.getFields()) {
            constants.append(Modifier.toString(field.getModifiers())).append(' ').append(field.getType().getName())
                .append(' ').append(field.getName()).append(';');
        }
        Check.dueText("constants", constants.toString(), "public static final int NONE;");
        Check.due("NONE", PermitPark.NONE, -1);
    }

    private static void nothingElse() {
        Set<String> publicNames = new TreeSet<>();
        for (Method method : PermitPark.class.getMethods()) {
            publicNames.add(method.getName());
        }
        for (Method method : PermitPark.class.getDeclaredMethods()) {
            int modifiers = method.getModifiers();
            Check.due(method + " is public or private", Modifier.isPublic(modifiers) || Modifier.isPrivate(modifiers), true);
            boolean isHidden = Modifier.isPrivate(modifiers) && publicNames.contains(method.getName());
            Check.due(method + " bears a public name", isHidden, false);
        }
        for (Field field : PermitPark.class.getDeclaredFields()) {
            boolean isNone = field.getName().equals("NONE");
            Check.due(field + " is private", Modifier.isPrivate(field.getModifiers()), !isNone);
        }
        for (Class<?> inside : PermitPark.class.getDeclaredClasses()) {
            Check.due(inside + " is static", Modifier.isStatic(inside.getModifiers()), true);
            boolean isSeen = Modifier.isPublic(inside.getModifiers()) || Modifier.isProtected(inside.getModifiers());
            Check.due(inside + " is public or protected", isSeen, false);
        }
    }

    private static List<Class<?>> classes() {
        List<Class<?>> classes = new ArrayList<>(List.of(PermitPark.class.getDeclaredClasses()));
        classes.add(PermitPark.class);
        return classes;
    }

    private static void staticFields() {
        for (Class<?> one : classes()) {
            for (Field field : one.getDeclaredFields()) {
                int modifiers = field.getModifiers();
                Check.due(field + " changes", Modifier.isStatic(modifiers) && !Modifier.isFinal(modifiers), false);
            }
        }
    }

    private static void sizes() {
        Check.due("some twelve classes", classes().size() <= CLASSES_MOST, true);
        for (Class<?> one : classes()) {
            int fields = 0;
            for (Field field : one.getDeclaredFields()) {
                fields += Modifier.isStatic(field.getModifiers()) ? 0 : 1;
            }
            Check.due("some twenty fields of " + one, fields <= FIELDS_MOST, true);
            for (Method method : one.getDeclaredMethods()) {
                Check.due(method + " has few parameters", method.getParameterCount() <= PARAMETERS_MOST, true);
            }
        }
    }
}
