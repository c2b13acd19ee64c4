import java.lang.reflect.Constructor;
import java.lang.reflect.Field;
import java.lang.reflect.Method;
import java.lang.reflect.Modifier;
import java.util.Set;
import java.util.TreeSet;

/** The public face: the document's constants, constructor and methods, and nothing else that is not private. */
public final class FaceTest {
    private static final Checks CHECKS = new Checks();

    private static final String[] METHODS = {
        "int arrayOf(int)", "int component(int)", "int dimensions(int)", "int supertype(int, int)",
        "int marks(int)", "int kinds(int)", "int text(int, int, int)", "int make(int, int)",
        "int makeArray(int, int)", "int classOf(int)", "int instance(int, int)", "int cast(int, int)",
        "int store(int, int, int)", "int load(int, int)", "int put(int, int, int)", "long get(int, int)",
        "int length(int)", "int copy(int)", "int label(int)", "int count(int)"};

    private static final String[] CONSTANTS = {
        "int REFUSED", "int NO_ARRAY", "int NEGATIVE", "int BAD_CAST", "int BAD_INDEX", "int BAD_STORE",
        "int NONE", "int FULL", "long ABSENT"};

    public static void main(String[] args) {
        theClass();
        theMethods();
        theConstants();
        CHECKS.end();
    }

    private static void theClass() {
        CHECKS.due("marks of the class", ClassObjectMirror.class.getModifiers(), Modifier.PUBLIC | Modifier.FINAL);
        Constructor<?>[] constructors = ClassObjectMirror.class.getDeclaredConstructors();
        CHECKS.due("constructors", constructors.length, 1);
        CHECKS.due("constructor's parameters", constructors[0].getParameterCount(), 0);
        CHECKS.due("constructor's marks", constructors[0].getModifiers(), Modifier.PUBLIC);
    }

    private static void theMethods() {
        Set<String> seen = new TreeSet<>();
        Set<String> publicNames = new TreeSet<>();
        Set<String> privateNames = new TreeSet<>();
        for (Method m : ClassObjectMirror.class.getDeclaredMethods()) {
            if (Modifier.isPrivate(m.getModifiers())) {
                privateNames.add(m.getName());
                continue;
            }
            publicNames.add(m.getName());
            StringBuilder face = new StringBuilder(m.getReturnType() + " " + m.getName() + "(");
            for (int i = 0; i < m.getParameterCount(); i++) {
                face.append(i == 0 ? "" : ", ").append(m.getParameterTypes()[i]);
            }
            seen.add(face.append(")").toString());
            CHECKS.due("marks of " + m.getName(), m.getModifiers(), Modifier.PUBLIC);
        }
        CHECKS.due("methods", seen.toString(), new TreeSet<>(Set.of(METHODS)).toString());
        privateNames.retainAll(publicNames);
        CHECKS.due("private methods with a public one's name", privateNames.toString(), "[]");
    }

    private static void theConstants() {
        Set<String> seen = new TreeSet<>();
        for (Field f : ClassObjectMirror.class.getDeclaredFields()) {
            if (!Modifier.isPrivate(f.getModifiers())) {
                seen.add(f.getType() + " " + f.getName());
                CHECKS.due("marks of " + f.getName(), f.getModifiers(), Modifier.PUBLIC | Modifier.STATIC | Modifier.FINAL);
            }
        }
        CHECKS.due("constants", seen.toString(), new TreeSet<>(Set.of(CONSTANTS)).toString());
        CHECKS.due("REFUSED", ClassObjectMirror.REFUSED, -1);
        CHECKS.due("NO_ARRAY", ClassObjectMirror.NO_ARRAY, -2);
        CHECKS.due("NEGATIVE", ClassObjectMirror.NEGATIVE, -3);
        CHECKS.due("BAD_CAST", ClassObjectMirror.BAD_CAST, -4);
        CHECKS.due("BAD_INDEX", ClassObjectMirror.BAD_INDEX, -5);
        CHECKS.due("BAD_STORE", ClassObjectMirror.BAD_STORE, -6);
        CHECKS.due("NONE", ClassObjectMirror.NONE, -7);
        CHECKS.due("FULL", ClassObjectMirror.FULL, -8);
        CHECKS.due("ABSENT", ClassObjectMirror.ABSENT, 10000000000L);
    }
}
