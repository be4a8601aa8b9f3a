/**
 * Promises 1 to 17 together: long runs of calls, made up by a fixed rule, each call asked of the
 * program and of the model, whose answers must agree.
 */
public final class ModelTest {
    private static final int RUNS = 3000;
    private static final int CALLS = 512;
    private static final int[] ODD = {
        -1, 16, 17, 31, 32, 33, 15, 65536, 65537, 70000, 1 << 30, Integer.MIN_VALUE, Integer.MAX_VALUE,
    };
    private static final String[] NAMES = {
        "plain", "row", "make", "copy", "drop", "same", "get", "put", "link", "follow", "keep",
        "number", "size", "memory", "every", "collect",
    };
    /** How often each call is made, in the order of the names. */
    private static final int[] OFTEN = {1, 1, 14, 5, 3, 4, 10, 12, 26, 14, 1, 4, 3, 3, 1, 6};

    private long seed;
    private int slots;
    private int longest;
    private int leastMemory;
    private int oddly;

    public static void main(String[] args) {
        int wrong = 0;
        for (int run = 1; run <= RUNS && wrong < 10; run++) {
            wrong += new ModelTest().run(run) ? 0 : 1;
        }
        System.out.println(RUNS + " runs, " + wrong + " not as due");
        if (wrong != 0) {
            System.exit(1);
        }
    }

    /** A run ends with its first wrong answer: those behind it tell nothing new. */
    private boolean run(int number) {
        seed = number * 0x9E3779B97F4A7C15L;
        slots = below(4) == 0 ? 1 + below(32) : 2 + below(6);
        longest = below(20) == 0 ? 70000 : 2 + below(12);
        leastMemory = 16 + below(200);
        oddly = below(2) == 0 ? 40 : 300;
        MemoryDesk desk = new MemoryDesk();
        Model model = new Model();
        for (int turn = 1; turn <= CALLS; turn++) {
            Call call = oddAtTimes(anyCall(turn <= 8 ? NAMES[below(2)] : anyName()));
            String got = call.on(desk);
            String want = call.on(model);
            if (!got.equals(want)) {
                System.out.println(
                    "run " + number + ", call " + turn + ": " + call + " answered " + got + ", due is " + want);
                return false;
            }
        }
        return true;
    }

    private int below(int bound) {
        seed = seed * 6364136223846793005L + 1442695040888963407L;
        return (int) ((seed >>> 33) % bound);
    }

    private String anyName() {
        int sum = 0;
        for (int often : OFTEN) {
            sum += often;
        }
        int left = below(sum);
        int op = 0;
        while (left >= OFTEN[op]) {
            left -= OFTEN[op];
            op++;
        }
        return NAMES[op];
    }

    private Call anyCall(String name) {
        switch (name) {
            case "plain":
                int words = below(17);
                return new Call(name, anyKind(), words, anyMask(words + (below(10) == 0 ? 1 : 0)));
            case "row":
                return new Call(name, anyKind(), below(2) == 0 ? MemoryDesk.REFERENCES : below(5));
            case "make":
                return new Call(name, anySlot(), anyKind(), below(longest) - (below(10) == 0 ? 1 : 0));
            case "copy":
            case "same":
                return new Call(name, anySlot(), anySlot());
            case "get":
                return new Call(name, anySlot(), anyPlace());
            case "put":
                return new Call(name, anySlot(), anyPlace(), anyValue());
            case "link":
            case "follow":
                return new Call(name, anySlot(), anyPlace(), anySlot());
            case "memory":
                return new Call(name, leastMemory + below(below(3) == 0 ? 65000 : 100));
            case "every":
                return new Call(name, below(6));
            case "collect":
                return new Call(name);
            default:
                return new Call(name, anySlot());
        }
    }

    private Call oddAtTimes(Call call) {
        if (call.arguments.length > 0 && below(oddly) == 0) {
            call.arguments[below(call.arguments.length)] = ODD[below(ODD.length)];
        }
        return call;
    }

    private int anyKind() {
        return below(6);
    }

    private int anySlot() {
        return below(slots);
    }

    private int anyPlace() {
        return below(6) == 0 ? below(longest) : below(3);
    }

    /** Often with every bit, so that references are as common as other words. */
    private int anyMask(int bits) {
        int all = (1 << Math.min(16, bits)) - 1;
        return below(3) == 0 ? all : below(all + 1);
    }

    private long anyValue() {
        long v = (long) below(1 << 30) << 34 ^ (long) below(1 << 30) << 17 ^ below(1 << 30);
        return v >> below(64);
    }
}
