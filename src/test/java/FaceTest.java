import java.lang.reflect.Constructor;
import java.lang.reflect.Field;
import java.lang.reflect.Method;
import java.lang.reflect.Modifier;
import java.util.Arrays;
import java.util.TreeSet;

/** The public face of the document: all of it, and nothing beside it. */
public final class FaceTest {
    private static final String[] FACE = {
        "boolean copy(int, int) IllegalArgumentException",
        "boolean drop(int) IllegalArgumentException",
        "boolean follow(int, int, int) IllegalArgumentException, IllegalStateException, IndexOutOfBoundsException, UnsupportedOperationException",
        "boolean link(int, int, int) IllegalArgumentException, IllegalStateException, IndexOutOfBoundsException, UnsupportedOperationException",
        "boolean memory(int) IllegalArgumentException",
        "boolean same(int, int) IllegalArgumentException",
        "int collect()",
        "int keep(int) IllegalArgumentException, IllegalStateException",
        "int make(int, int, int) IllegalArgumentException, IllegalStateException, UnsupportedOperationException",
        "int number(int) IllegalArgumentException, IllegalStateException",
        "int size(int) IllegalArgumentException, IllegalStateException",
        "long get(int, int) IllegalArgumentException, IllegalStateException, IndexOutOfBoundsException, UnsupportedOperationException",
        "void every(int) IllegalArgumentException",
        "void plain(int, int, int) IllegalArgumentException",
        "void put(int, int, long) IllegalArgumentException, IllegalStateException, IndexOutOfBoundsException, UnsupportedOperationException",
        "void row(int, int) IllegalArgumentException",
    };

    private static final String CONSTANTS = "`REFERENCES = 0, OCTETS = 1, HALVES = 2, INTS = 3, LONGS = 4`";

    public static void main(String[] args) {
        Due due = new Due();
        due.says("The public face", "public final class MemoryDesk", run -> classIsOpenAndFinal(due));
        due.says("The public face", "public MemoryDesk();", run -> constructor(due));
        due.says("The public face", "public int collect();", run -> methods(due));
        due.says("Terms", CONSTANTS, run -> constants(due));
        due.end();
    }

    private static void classIsOpenAndFinal(Due due) {
        int modifiers = MemoryDesk.class.getModifiers();
        due.answer("the modifiers of the class", Modifier.toString(modifiers), "public final");
        due.answer("the package", MemoryDesk.class.getPackageName(), "");
    }

    private static void constructor(Due due) {
        Constructor<?>[] made = MemoryDesk.class.getDeclaredConstructors();
        due.answer("the constructors", Arrays.toString(made), "[public MemoryDesk()]");
    }

    private static void methods(Due due) {
        due.answer("the methods", openMethods(MemoryDesk.class).toString(), Arrays.toString(FACE));
        for (Method method : MemoryDesk.class.getDeclaredMethods()) {
            if (!Modifier.isPrivate(method.getModifiers())) {
                due.answer("the modifiers of " + method.getName(), Modifier.toString(method.getModifiers()), "public");
            }
        }
    }

    private static void constants(Due due) {
        String names = openFields(MemoryDesk.class).toString();
        due.answer("the constants", names, "[HALVES, INTS, LONGS, OCTETS, REFERENCES]");
        int[] values = {
            MemoryDesk.REFERENCES, MemoryDesk.OCTETS, MemoryDesk.HALVES, MemoryDesk.INTS, MemoryDesk.LONGS,
        };
        due.answer("REFERENCES, OCTETS, HALVES, INTS, LONGS", Arrays.toString(values), "[0, 1, 2, 3, 4]");
    }

    private static TreeSet<String> openMethods(Class<?> desk) {
        TreeSet<String> open = new TreeSet<>();
        for (Method method : desk.getDeclaredMethods()) {
            if (!Modifier.isPrivate(method.getModifiers())) {
                open.add(signature(method));
            }
        }
        return open;
    }

    private static String signature(Method method) {
        String text = method.getReturnType() + " " + method.getName()
            + "(" + names(method.getParameterTypes()) + ") " + names(method.getExceptionTypes());
        return text.trim();
    }

    private static String names(Class<?>[] types) {
        StringBuilder text = new StringBuilder();
        for (Class<?> type : types) {
            text.append(text.length() == 0 ? "" : ", ").append(type.getSimpleName());
        }
        return text.toString();
    }

    private static TreeSet<String> openFields(Class<?> desk) {
        TreeSet<String> open = new TreeSet<>();
        for (Field field : desk.getDeclaredFields()) {
            if (!Modifier.isPrivate(field.getModifiers())) {
                open.add(field.getName());
            }
        }
        return open;
    }
}
