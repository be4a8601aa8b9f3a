import java.lang.reflect.InvocationTargetException;
import java.lang.reflect.Method;
import java.util.Arrays;

/**
 * Promises 1 to 17 together: long runs of calls, made up by a fixed rule, each call asked of the
 * program and of the model, whose answers must agree.
 */
public final class ModelTest {
    private static final int RUNS = 3000;
    private static final int CALLS = 512;
    private static final int[] ODD = {
        -1, 16, 17, 31, 32, 33, 15, 65536, 65537, 70000, 1 << 30, Integer.MIN_VALUE, Integer.MAX_VALUE,
    };
    private static final String[] NAMES = {
        "plain", "row", "make", "copy", "drop", "same", "get", "put", "link", "follow", "keep",
        "number", "size", "memory", "every", "collect",
    };
    /** How often each call is made, in the order of the names. */
    private static final int[] OFTEN = {1, 1, 14, 5, 3, 4, 10, 12, 26, 14, 1, 4, 3, 3, 1, 6};

    private static final Method[] DESK = methodsOf(MemoryDesk.class);
    private static final Method[] MODEL = methodsOf(Model.class);

    private long seed;
    private int slots;
    private int longest;
    private int leastMemory;
    private int oddly;

    public static void main(String[] args) throws IllegalAccessException {
        int wrong = 0;
        for (int run = 1; run <= RUNS && wrong < 10; run++) {
            wrong += new ModelTest().run(run) ? 0 : 1;
        }
        System.out.println(RUNS + " runs, " + wrong + " not as due");
        if (wrong != 0) {
            System.exit(1);
        }
    }

    /** A run ends with its first wrong answer: those behind it tell nothing new. */
    private boolean run(int number) throws IllegalAccessException {
        seed = number * 0x9E3779B97F4A7C15L;
        slots = below(4) == 0 ? 1 + below(32) : 2 + below(6);
        longest = below(20) == 0 ? 70000 : 2 + below(12);
        leastMemory = 16 + below(200);
        oddly = below(2) == 0 ? 40 : 300;
        MemoryDesk desk = new MemoryDesk();
        Model model = new Model();
        for (int call = 1; call <= CALLS; call++) {
            int op = call <= 8 ? below(2) : anyCall();
            int[] a = arguments(op);
            long v = value();
            String got = outcome(desk, DESK[op], a, v);
            String want = outcome(model, MODEL[op], a, v);
            if (!got.equals(want)) {
                System.out.println("run " + number + ", call " + call + ": " + NAMES[op] + "(" + a[0] + ", "
                    + a[1] + ", " + a[2] + "; " + v + ") answered " + got + ", due is " + want);
                return false;
            }
        }
        return true;
    }

    private int below(int bound) {
        seed = seed * 6364136223846793005L + 1442695040888963407L;
        return (int) ((seed >>> 33) % bound);
    }

    private int anyCall() {
        int sum = 0;
        for (int often : OFTEN) {
            sum += often;
        }
        int left = below(sum);
        for (int op = 0; op < OFTEN.length; op++) {
            left -= OFTEN[op];
            if (left < 0) {
                return op;
            }
        }
        return 0;
    }

    private int[] arguments(int op) {
        int[] a = {below(slots), below(5), below(slots)};
        switch (NAMES[op]) {
            case "plain":
                a[0] = below(6);
                a[1] = below(17);
                a[2] = anyMask(a[1] + (below(10) == 0 ? 1 : 0));
                break;
            case "row":
                a[0] = below(6);
                a[1] = below(2) == 0 ? MemoryDesk.REFERENCES : a[1];
                break;
            case "make":
                a[1] = below(6);
                a[2] = below(longest) - (below(10) == 0 ? 1 : 0);
                break;
            case "copy":
            case "same":
                a[1] = below(slots);
                break;
            case "memory":
                a[0] = leastMemory + below(below(3) == 0 ? 65000 : 100);
                break;
            default:
                a[1] = below(6) == 0 ? below(longest) : below(3);
                break;
        }
        if (below(oddly) == 0) {
            a[below(3)] = ODD[below(ODD.length)];
        }
        return a;
    }

    /** Often with every bit, so that references are as common as other words. */
    private int anyMask(int bits) {
        int all = (1 << Math.min(16, bits)) - 1;
        return below(3) == 0 ? all : below(all + 1);
    }

    private long value() {
        long v = (long) below(1 << 30) << 34 ^ (long) below(1 << 30) << 17 ^ below(1 << 30);
        return v >> below(64);
    }

    private static Method[] methodsOf(Class<?> type) {
        Method[] methods = new Method[NAMES.length];
        for (Method method : type.getDeclaredMethods()) {
            int op = Arrays.asList(NAMES).indexOf(method.getName());
            if (op >= 0) {
                methods[op] = method;
            }
        }
        return methods;
    }

    private static String outcome(Object asked, Method method, int[] a, long v) throws IllegalAccessException {
        Class<?>[] types = method.getParameterTypes();
        Object[] given = new Object[types.length];
        for (int i = 0; i < given.length; i++) {
            given[i] = types[i] == long.class ? (Object) v : (Object) a[i];
        }
        try {
            return String.valueOf(method.invoke(asked, given));
        } catch (InvocationTargetException e) {
            return e.getCause().getClass().getName();
        }
    }
}
