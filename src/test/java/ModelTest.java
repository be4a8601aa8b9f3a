/**
 * Promises 1 to 17 together: long runs of calls, made up by a fixed rule, each call asked of the
 * program and of the model, whose answers must agree.
 */
public final class ModelTest {
    private static final int RUNS = 3000;
    private static final int CALLS = 512;
    private static final int[] ODD = {
        -1, 16, 17, 31, 32, 33, 15, 65536, 65537, 70000, 1 << 30, Integer.MIN_VALUE, Integer.MAX_VALUE,
    };
    private static final String[] NAMES = {
        "plain", "row", "make", "copy", "drop", "same", "get", "put", "link", "follow", "keep",
        "number", "size", "memory", "every", "collect",
    };
    /** How often each call is made, in the order of the names. */
    private static final int[] OFTEN = {3, 3, 22, 7, 7, 4, 10, 10, 18, 8, 1, 4, 3, 3, 1, 6};

    private long seed;
    private int slots;
    private int longest;
    private int leastMemory;
    private int oddly;

    public static void main(String[] args) {
        int wrong = 0;
        for (int run = 1; run <= RUNS && wrong < 10; run++) {
            wrong += new ModelTest().run(run) ? 0 : 1;
        }
        System.out.println(RUNS + " runs, " + wrong + " not as due");
        if (wrong != 0) {
            System.exit(1);
        }
    }

    /** A run ends with its first wrong answer: those behind it tell nothing new. */
    private boolean run(int number) {
        seed = number * 0x9E3779B97F4A7C15L;
        slots = 1 + below(32);
        longest = below(20) == 0 ? 70000 : 2 + below(12);
        leastMemory = 16 + below(200);
        oddly = below(2) == 0 ? 40 : 300;
        MemoryDesk desk = new MemoryDesk();
        Model model = new Model();
        for (int call = 1; call <= CALLS; call++) {
            int op = call <= 4 ? below(2) : anyCall();
            int[] a = arguments(op);
            long v = value();
            String got = outcome(desk, null, op, a, v);
            String want = outcome(null, model, op, a, v);
            if (!got.equals(want)) {
                System.out.println("run " + number + ", call " + call + ": " + NAMES[op] + "(" + a[0] + ", "
                    + a[1] + ", " + a[2] + "; " + v + ") answered " + got + ", due is " + want);
                return false;
            }
        }
        return true;
    }

    private int below(int bound) {
        seed = seed * 6364136223846793005L + 1442695040888963407L;
        return (int) ((seed >>> 33) % bound);
    }

    private int anyCall() {
        int sum = 0;
        for (int often : OFTEN) {
            sum += often;
        }
        int left = below(sum);
        for (int op = 0; op < OFTEN.length; op++) {
            left -= OFTEN[op];
            if (left < 0) {
                return op;
            }
        }
        return 0;
    }

    private int[] arguments(int op) {
        int[] a = {below(slots), below(5), below(slots)};
        switch (NAMES[op]) {
            case "plain":
                a[0] = below(6);
                a[1] = below(17);
                a[2] = below(1 << Math.min(16, a[1] + (below(10) == 0 ? 1 : 0)));
                break;
            case "row":
                a[0] = below(6);
                break;
            case "make":
                a[1] = below(6);
                a[2] = below(longest) - (below(10) == 0 ? 1 : 0);
                break;
            case "copy":
            case "same":
                a[1] = below(slots);
                break;
            case "memory":
                a[0] = leastMemory + below(below(3) == 0 ? 65000 : 100);
                break;
            default:
                a[1] = below(3) == 0 ? below(longest) : below(4);
                break;
        }
        if (below(oddly) == 0) {
            a[below(3)] = ODD[below(ODD.length)];
        }
        return a;
    }

    private long value() {
        long v = (long) below(1 << 30) << 34 ^ (long) below(1 << 30) << 17 ^ below(1 << 30);
        return v >> below(64);
    }

    private static String outcome(MemoryDesk desk, Model model, int op, int[] a, long v) {
        try {
            return desk != null ? ask(desk, op, a, v) : ask(model, op, a, v);
        } catch (RuntimeException e) {
            return e.getClass().getName();
        }
    }

    private static String ask(MemoryDesk x, int op, int[] a, long v) {
        switch (NAMES[op]) {
            case "plain": x.plain(a[0], a[1], a[2]); return "done";
            case "row": x.row(a[0], a[1]); return "done";
            case "make": return "" + x.make(a[0], a[1], a[2]);
            case "copy": return "" + x.copy(a[0], a[1]);
            case "drop": return "" + x.drop(a[0]);
            case "same": return "" + x.same(a[0], a[1]);
            case "get": return "" + x.get(a[0], a[1]);
            case "put": x.put(a[0], a[1], v); return "done";
            case "link": return "" + x.link(a[0], a[1], a[2]);
            case "follow": return "" + x.follow(a[0], a[1], a[2]);
            case "keep": return "" + x.keep(a[0]);
            case "number": return "" + x.number(a[0]);
            case "size": return "" + x.size(a[0]);
            case "memory": return "" + x.memory(a[0]);
            case "every": x.every(a[0]); return "done";
            default: return "" + x.collect();
        }
    }

    private static String ask(Model x, int op, int[] a, long v) {
        switch (NAMES[op]) {
            case "plain": x.plain(a[0], a[1], a[2]); return "done";
            case "row": x.row(a[0], a[1]); return "done";
            case "make": return "" + x.make(a[0], a[1], a[2]);
            case "copy": return "" + x.copy(a[0], a[1]);
            case "drop": return "" + x.drop(a[0]);
            case "same": return "" + x.same(a[0], a[1]);
            case "get": return "" + x.get(a[0], a[1]);
            case "put": x.put(a[0], a[1], v); return "done";
            case "link": return "" + x.link(a[0], a[1], a[2]);
            case "follow": return "" + x.follow(a[0], a[1], a[2]);
            case "keep": return "" + x.keep(a[0]);
            case "number": return "" + x.number(a[0]);
            case "size": return "" + x.size(a[0]);
            case "memory": return "" + x.memory(a[0]);
            case "every": x.every(a[0]); return "done";
            default: return "" + x.collect();
        }
    }
}
