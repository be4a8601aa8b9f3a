/** Promises 8 and 9: get and put. */
public final class WordsTest {
    private static final Due DUE = new Due();
    private static final long[] VALUES = {
        0, 1, -1, 127, 128, 255, 256, -128, -129, 32767, 32768, 65535, 65536, -32768, -32769,
        2147483647L, 2147483648L, 4294967295L, 4294967296L, -2147483648L, -2147483649L,
        0x123456789ABCDEFL, 0x80L << 56, Long.MAX_VALUE, Long.MIN_VALUE, Long.MIN_VALUE + 1,
    };

    public static void main(String[] args) {
        keepsTheLowestBits();
        placesAreApart();
        valuesOutliveCollection();
        refusesInOrder();
        refusedPutChangesNothing();
        DUE.end();
    }

    private static void keepsTheLowestBits() {
        MemoryDesk desk = new MemoryDesk();
        desk.plain(0, 1, 0);
        desk.make(0, 0, 0);
        for (int elements = 1; elements <= 4; elements++) {
            desk.row(elements, elements);
            desk.make(elements, elements, 1);
        }
        for (long v : VALUES) {
            checkPut(desk, 0, v, (int) v);
            checkPut(desk, MemoryDesk.OCTETS, v, (byte) v);
            checkPut(desk, MemoryDesk.HALVES, v, (char) v);
            checkPut(desk, MemoryDesk.INTS, v, (int) v);
            checkPut(desk, MemoryDesk.LONGS, v, v);
        }
    }

    private static void checkPut(MemoryDesk desk, int s, long v, long want) {
        DUE.done("put(" + s + ", 0, " + v + ")", () -> desk.put(s, 0, v));
        DUE.number("get(" + s + ", 0) after " + v, want, () -> desk.get(s, 0));
    }

    private static void placesAreApart() {
        for (int elements = 1; elements <= 4; elements++) {
            MemoryDesk desk = new MemoryDesk();
            desk.row(0, elements);
            desk.make(0, 0, 9);
            desk.make(1, 0, 9);
            for (int k = 0; k < 9; k += 2) {
                desk.put(0, k, -1);
                desk.put(1, 8 - k, k + 1);
            }
            long ones = elements == MemoryDesk.HALVES ? 65535 : -1;
            for (int k = 0; k < 9; k++) {
                int place = k;
                DUE.number("get(0, " + k + ") of " + elements, k % 2 == 0 ? ones : 0, () -> desk.get(0, place));
                DUE.number("get(1, " + k + ") of " + elements, k % 2 == 0 ? 9 - k : 0, () -> desk.get(1, place));
            }
        }
    }

    private static void valuesOutliveCollection() {
        MemoryDesk desk = new MemoryDesk();
        desk.plain(0, 16, 0x00F0);
        desk.row(1, MemoryDesk.LONGS);
        desk.memory(64);
        desk.make(0, 0, 0);
        desk.make(1, 1, 10);
        desk.put(0, 0, 7);
        desk.put(0, 15, -7);
        desk.put(1, 9, Long.MIN_VALUE);
        for (int time = 0; time < 20; time++) {
            desk.make(2, 1, 2);
            desk.put(2, 0, time);
            desk.put(2, 1, -time);
            desk.collect();
            DUE.number("get(0, 0)", 7, () -> desk.get(0, 0));
            DUE.number("get(0, 15)", -7, () -> desk.get(0, 15));
            DUE.number("get(1, 9)", Long.MIN_VALUE, () -> desk.get(1, 9));
            DUE.number("get(1, 0)", 0, () -> desk.get(1, 0));
        }
    }

    private static void refusesInOrder() {
        MemoryDesk desk = new MemoryDesk();
        desk.plain(0, 3, 5);
        desk.row(1, MemoryDesk.REFERENCES);
        desk.make(0, 0, 0);
        desk.make(1, 1, 2);
        int[] slots = {-1, 32, Integer.MIN_VALUE, Integer.MAX_VALUE};
        for (int s : slots) {
            refused(desk, s, 0, Due.ARGUMENT);
            refused(desk, s, -1, Due.ARGUMENT);
        }
        refused(desk, 2, 0, Due.STATE);
        refused(desk, 2, -1, Due.STATE);
        int[] places = {-1, 3, 16, 32, Integer.MIN_VALUE, Integer.MAX_VALUE};
        for (int k : places) {
            refused(desk, 0, k, Due.INDEX);
            refused(desk, 1, k, Due.INDEX);
        }
        refused(desk, 1, 2, Due.INDEX);
        refused(desk, 0, 0, Due.UNSUPPORTED);
        refused(desk, 0, 2, Due.UNSUPPORTED);
        refused(desk, 1, 0, Due.UNSUPPORTED);
        refused(desk, 1, 1, Due.UNSUPPORTED);
        DUE.number("get(0, 1)", 0, () -> desk.get(0, 1));
    }

    private static void refused(MemoryDesk desk, int s, int k, Class<? extends Exception> want) {
        DUE.refused("get(" + s + ", " + k + ")", want, () -> desk.get(s, k));
        DUE.refused("put(" + s + ", " + k + ", 1)", want, () -> desk.put(s, k, 1));
    }

    private static void refusedPutChangesNothing() {
        MemoryDesk desk = new MemoryDesk();
        desk.plain(0, 2, 1);
        desk.make(0, 0, 0);
        desk.put(0, 1, 5);
        desk.link(0, 0, 0);
        refused(desk, 0, 0, Due.UNSUPPORTED);
        refused(desk, 0, 2, Due.INDEX);
        DUE.number("get(0, 1)", 5, () -> desk.get(0, 1));
        DUE.truth("follow(0, 0, 1)", true, () -> desk.follow(0, 0, 1));
        DUE.truth("same(0, 1)", true, () -> desk.same(0, 1));
    }
}
