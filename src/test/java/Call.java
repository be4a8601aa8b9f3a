import java.lang.reflect.InvocationTargetException;
import java.lang.reflect.Method;
import java.lang.reflect.Modifier;
import java.util.HashMap;
import java.util.Map;

/** One call of the face, which can be made on any object that has a method of its name. */
final class Call {
    private static final Map<Class<?>, Map<String, Method>> METHODS = new HashMap<>();

    final String name;
    final long[] arguments;

    Call(String name, long... arguments) {
        this.name = name;
        this.arguments = arguments;
    }

    /** A call as it is written: "make(0, 1, -5)". */
    static Call of(String text) {
        int open = text.indexOf('(');
        String inside = text.substring(open + 1, text.length() - 1).trim();
        String[] parts = inside.isEmpty() ? new String[0] : inside.split(",");
        long[] arguments = new long[parts.length];
        for (int i = 0; i < parts.length; i++) {
            arguments[i] = Long.decode(parts[i].trim());
        }
        return new Call(text.substring(0, open), arguments);
    }

    /** What the call answers: "done" if that is nothing, the exception's name if it throws. */
    String on(Object asked) {
        Method method = methodOf(asked.getClass());
        try {
            Object answer = method.invoke(asked, given(method.getParameterTypes()));
            return method.getReturnType() == void.class ? "done" : answer.toString();
        } catch (InvocationTargetException e) {
            return e.getCause().getClass().getSimpleName();
        } catch (IllegalAccessException e) {
            throw new IllegalStateException(e);
        }
    }

    private Object[] given(Class<?>[] types) {
        if (types.length != arguments.length) {
            throw new IllegalStateException(this + " has the wrong number of arguments");
        }
        Object[] given = new Object[types.length];
        for (int i = 0; i < types.length; i++) {
            given[i] = types[i] == long.class ? (Object) arguments[i] : (Object) Math.toIntExact(arguments[i]);
        }
        return given;
    }

    private Method methodOf(Class<?> type) {
        Map<String, Method> methods = METHODS.computeIfAbsent(type, Call::openMethods);
        if (!methods.containsKey(name)) {
            throw new IllegalStateException(this + " is no call of " + type);
        }
        return methods.get(name);
    }

    private static Map<String, Method> openMethods(Class<?> type) {
        Map<String, Method> methods = new HashMap<>();
        for (Method method : type.getDeclaredMethods()) {
            if (!Modifier.isPrivate(method.getModifiers())) {
                methods.put(method.getName(), method);
            }
        }
        return methods;
    }

    @Override
    public String toString() {
        StringBuilder text = new StringBuilder(name).append('(');
        for (int i = 0; i < arguments.length; i++) {
            text.append(i == 0 ? "" : ", ").append(arguments[i]);
        }
        return text.append(')').toString();
    }
}
