import java.lang.reflect.Constructor;
import java.lang.reflect.Field;
import java.lang.reflect.Method;
import java.lang.reflect.Modifier;
import java.util.Arrays;
import java.util.TreeSet;

/** The public face of the document: all of it, and nothing beside it. */
public final class FaceTest {
    private static final String[] FACE = {
        "boolean copy(int, int) IllegalArgumentException",
        "boolean drop(int) IllegalArgumentException",
        "boolean follow(int, int, int) IllegalArgumentException, IllegalStateException, IndexOutOfBoundsException, UnsupportedOperationException",
        "boolean link(int, int, int) IllegalArgumentException, IllegalStateException, IndexOutOfBoundsException, UnsupportedOperationException",
        "boolean memory(int) IllegalArgumentException",
        "boolean same(int, int) IllegalArgumentException",
        "int collect()",
        "int keep(int) IllegalArgumentException, IllegalStateException",
        "int make(int, int, int) IllegalArgumentException, IllegalStateException, UnsupportedOperationException",
        "int number(int) IllegalArgumentException, IllegalStateException",
        "int size(int) IllegalArgumentException, IllegalStateException",
        "long get(int, int) IllegalArgumentException, IllegalStateException, IndexOutOfBoundsException, UnsupportedOperationException",
        "void every(int) IllegalArgumentException",
        "void plain(int, int, int) IllegalArgumentException",
        "void put(int, int, long) IllegalArgumentException, IllegalStateException, IndexOutOfBoundsException, UnsupportedOperationException",
        "void row(int, int) IllegalArgumentException",
    };

    public static void main(String[] args) {
        Due due = new Due();
        Class<?> desk = MemoryDesk.class;
        due.truth("the class is public and final", true,
            () -> Modifier.isPublic(desk.getModifiers()) && Modifier.isFinal(desk.getModifiers()));
        due.truth("the methods are those of the document", true,
            () -> openMethods(desk).equals(new TreeSet<>(Arrays.asList(FACE))));
        due.truth("the constants are those of the document", true,
            () -> openFields(desk).toString().equals("[HALVES, INTS, LONGS, OCTETS, REFERENCES]"));
        due.number("constructors", 1, () -> desk.getDeclaredConstructors().length);
        Constructor<?> made = desk.getDeclaredConstructors()[0];
        due.truth("the constructor is public and takes nothing", true,
            () -> Modifier.isPublic(made.getModifiers()) && made.getParameterCount() == 0);
        due.number("REFERENCES", 0, () -> MemoryDesk.REFERENCES);
        due.number("OCTETS", 1, () -> MemoryDesk.OCTETS);
        due.number("HALVES", 2, () -> MemoryDesk.HALVES);
        due.number("INTS", 3, () -> MemoryDesk.INTS);
        due.number("LONGS", 4, () -> MemoryDesk.LONGS);
        due.end();
    }

    private static TreeSet<String> openMethods(Class<?> desk) {
        TreeSet<String> open = new TreeSet<>();
        for (Method method : desk.getDeclaredMethods()) {
            if (!Modifier.isPrivate(method.getModifiers())) {
                open.add(signature(method));
            }
        }
        return open;
    }

    private static String signature(Method method) {
        String text = method.getReturnType() + " " + method.getName()
            + "(" + names(method.getParameterTypes()) + ") " + names(method.getExceptionTypes());
        return text.trim();
    }

    private static String names(Class<?>[] types) {
        StringBuilder text = new StringBuilder();
        for (Class<?> type : types) {
            text.append(text.length() == 0 ? "" : ", ").append(type.getSimpleName());
        }
        return text.toString();
    }

    private static TreeSet<String> openFields(Class<?> desk) {
        TreeSet<String> open = new TreeSet<>();
        for (Field field : desk.getDeclaredFields()) {
            if (!Modifier.isPrivate(field.getModifiers())) {
                open.add(field.getName());
            }
        }
        return open;
    }
}
