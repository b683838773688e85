import java.lang.reflect.Constructor;
import java.lang.reflect.Field;
import java.lang.reflect.Method;
import java.lang.reflect.Modifier;
import java.util.Set;
import java.util.TreeSet;

/** The public face as the document lists it, and nothing beside it that is not private. */
public final class FaceTest {
    private static final String[] CONSTANTS = {
        "V_NONE 0", "V_OK 1", "V_EMPTY 2", "V_INCONSISTENT 3", "V_TOO_LONG 4", "V_DEADLOCK 5", "V_TOO_BIG 6",
        "MAX_RATE 8", "MAX_INIT 32", "MAX_CAPACITY 64", "MAX_PERIOD 256", "MAX_STORE 512", "MAX_STEPS 256"};
    private static final String[] METHODS = {
        "void clear()", "int addActor()", "int addChannel(int, int, int, int)", "boolean setTokens(int, int)",
        "boolean setCapacity(int, int)", "int analyze()", "int verdict()", "long repetitions(int)",
        "int scheduleLength()", "int scheduleAt(int)", "int bound(int)", "int run(int)", "int position()",
        "int tokenCount(int)", "int tokenValue(int, int)", "int fired(int)"};

    private static String types(Class<?>[] parameters) {
        StringBuilder s = new StringBuilder();
        for (Class<?> p : parameters) {
            s.append(s.length() == 0 ? "" : ", ").append(p.getName());
        }
        return "(" + s + ")";
    }

    private static void constants() throws IllegalAccessException {
        Set<String> got = new TreeSet<>();
        for (Field f : SdfScheduler.class.getDeclaredFields()) {
            int m = f.getModifiers();
            if (Modifier.isPrivate(m)) {
                continue;
            }
            boolean isConstant = Modifier.isPublic(m) && Modifier.isStatic(m) && Modifier.isFinal(m)
                && f.getType() == int.class;
            got.add(isConstant ? f.getName() + " " + f.getInt(null) : f.toString());
        }
        Checks.due("constants", got.toString(), new TreeSet<>(Set.of(CONSTANTS)).toString());
    }

    private static void methods() {
        Set<String> got = new TreeSet<>();
        for (Method f : SdfScheduler.class.getDeclaredMethods()) {
            if (!Modifier.isPrivate(f.getModifiers())) {
                String kind = f.getModifiers() == Modifier.PUBLIC ? "" : Modifier.toString(f.getModifiers()) + " ";
                got.add(kind + f.getReturnType().getName() + " " + f.getName() + types(f.getParameterTypes()));
            }
        }
        Checks.due("methods", got.toString(), new TreeSet<>(Set.of(METHODS)).toString());
    }

    private static void theClassItself() {
        Class<?> c = SdfScheduler.class;
        Checks.due("modifiers", Modifier.toString(c.getModifiers()), "public final");
        Checks.due("superclass", c.getSuperclass().getName(), "java.lang.Object");
        Checks.due("interfaces", c.getInterfaces().length, 0);
        Checks.due("nested classes", c.getDeclaredClasses().length, 0);
        Constructor<?>[] constructors = c.getDeclaredConstructors();
        Checks.due("constructors", constructors.length, 1);
        Checks.due("constructor", types(constructors[0].getParameterTypes()), "(int, int)");
        Checks.due("constructor", Modifier.toString(constructors[0].getModifiers()), "public");
    }

    public static void main(String[] args) throws IllegalAccessException {
        constants();
        methods();
        theClassItself();
        Checks.finish();
    }
}
