/** Promises 15, 16 and 17: memory, every and collect. */
public final class MemoryTest {
    private static final Due DUE = new Due();

    public static void main(String[] args) {
        memoryAtFirst();
        memoryTakesWhatFits();
        memoryStaysAsItIs();
        memoryRefuses();
        everyRefuses();
        for (int n : new int[] {0, 1, 2, 3, 7, Integer.MAX_VALUE}) {
            nothingHangsOnEvery(n);
        }
        collectCountsEachOnce();
        everySlotHolds();
        DUE.end();
    }

    private static void memoryAtFirst() {
        MemoryDesk desk = new MemoryDesk();
        desk.row(0, MemoryDesk.INTS);
        DUE.refused("make(0, 0, 65533)", Due.UNSUPPORTED, () -> desk.make(0, 0, 65533));
        DUE.number("make(0, 0, 65532)", 1, () -> desk.make(0, 0, 65532));
    }

    private static void memoryTakesWhatFits() {
        MemoryDesk desk = new MemoryDesk();
        desk.row(0, MemoryDesk.INTS);
        desk.make(0, 0, 20);
        desk.make(1, 0, 20);
        DUE.truth("memory(47) with 48 words held", false, () -> desk.memory(47));
        DUE.truth("memory(48)", true, () -> desk.memory(48));
        DUE.refused("make(2, 0, 0)", Due.UNSUPPORTED, () -> desk.make(2, 0, 0));
        desk.drop(1);
        DUE.truth("memory(24) with 24 words held", true, () -> desk.memory(24));
        DUE.truth("memory(23)", false, () -> desk.memory(23));
        DUE.refused("make(2, 0, 0)", Due.UNSUPPORTED, () -> desk.make(2, 0, 0));
        DUE.truth("memory(28)", true, () -> desk.memory(28));
        DUE.number("make(2, 0, 0)", 3, () -> desk.make(2, 0, 0));
        desk.drop(0);
        desk.drop(2);
        DUE.truth("memory(16)", true, () -> desk.memory(16));
        DUE.truth("memory(65536)", true, () -> desk.memory(65536));
        DUE.number("make(0, 0, 65532)", 4, () -> desk.make(0, 0, 65532));
        DUE.truth("memory(65535)", false, () -> desk.memory(65535));
        DUE.truth("memory(65536)", true, () -> desk.memory(65536));
    }

    private static void memoryStaysAsItIs() {
        MemoryDesk desk = new MemoryDesk();
        desk.row(0, MemoryDesk.INTS);
        desk.memory(40);
        desk.make(0, 0, 26);
        desk.put(0, 25, 9);
        DUE.truth("memory(29) with 30 words held", false, () -> desk.memory(29));
        DUE.refused("make(1, 0, 7)", Due.UNSUPPORTED, () -> desk.make(1, 0, 7));
        DUE.refused("memory(15)", Due.ARGUMENT, () -> desk.memory(15));
        DUE.number("make(1, 0, 6)", 2, () -> desk.make(1, 0, 6));
        DUE.number("get(0, 25)", 9, () -> desk.get(0, 25));
    }

    private static void memoryRefuses() {
        MemoryDesk desk = new MemoryDesk();
        int[] wrong = {15, 0, -1, 65537, Integer.MIN_VALUE, Integer.MAX_VALUE};
        for (int w : wrong) {
            DUE.refused("memory(" + w + ")", Due.ARGUMENT, () -> desk.memory(w));
        }
    }

    private static void everyRefuses() {
        MemoryDesk desk = new MemoryDesk();
        DUE.refused("every(-1)", Due.ARGUMENT, () -> desk.every(-1));
        DUE.refused("every(MIN)", Due.ARGUMENT, () -> desk.every(Integer.MIN_VALUE));
        DUE.done("every(0)", () -> desk.every(0));
        DUE.done("every(1)", () -> desk.every(1));
        DUE.done("every(MAX)", () -> desk.every(Integer.MAX_VALUE));
    }

    private static void nothingHangsOnEvery(int n) {
        MemoryDesk desk = new MemoryDesk();
        desk.plain(0, 2, 1);
        desk.memory(20);
        DUE.done("every(" + n + ")", () -> desk.every(n));
        for (int i = 1; i <= 60; i++) {
            int count = i;
            DUE.number("make(1, 0, 0)", count, () -> desk.make(1, 0, 0));
            desk.put(1, 1, i);
            desk.link(1, 0, 0);
            if (i % 2 == 0) {
                DUE.number("get(0, 1)", count - 1, () -> desk.get(0, 1));
                desk.drop(0);
            } else {
                desk.copy(0, 1);
            }
        }
        DUE.number("get(1, 1)", 60, () -> desk.get(1, 1));
        DUE.number("collect(): 60 and 59, which it names", 10, desk::collect);
        desk.copy(0, 1);
        desk.make(1, 0, 0);
        desk.make(2, 0, 0);
        DUE.refused("make(3, 0, 0)", Due.UNSUPPORTED, () -> desk.make(3, 0, 0));
        DUE.number("number(2)", 1, () -> desk.number(2));
    }

    private static void collectCountsEachOnce() {
        MemoryDesk desk = new MemoryDesk();
        desk.plain(0, 2, 3);
        desk.row(1, MemoryDesk.REFERENCES);
        DUE.number("collect() of nothing", 0, desk::collect);
        desk.make(0, 0, 0);
        desk.make(1, 1, 3);
        desk.copy(2, 0);
        desk.keep(0);
        desk.link(0, 0, 1);
        desk.link(0, 1, 1);
        desk.link(1, 0, 0);
        desk.link(1, 1, 1);
        desk.link(1, 2, 0);
        DUE.number("collect()", 12, desk::collect);
        desk.drop(0);
        desk.drop(1);
        desk.drop(2);
        DUE.number("collect() from what is kept", 12, desk::collect);
        desk.make(0, 0, 0);
        DUE.number("collect() with one that names nothing", 17, desk::collect);
        desk.make(0, 0, 0);
        DUE.number("collect() with one in its place", 17, desk::collect);
    }

    private static void everySlotHolds() {
        MemoryDesk desk = new MemoryDesk();
        desk.plain(0, 1, 0);
        for (int s = 0; s < 32; s++) {
            int held = s + 1;
            desk.make(s, 0, 0);
            DUE.number("collect() with " + held + " slots that hold one", 4 * held, desk::collect);
        }
        DUE.truth("memory(127)", false, () -> desk.memory(127));
        DUE.truth("memory(128)", true, () -> desk.memory(128));
        for (int s = 0; s < 32; s++) {
            int left = 31 - s;
            desk.drop(s);
            DUE.number("collect() with " + left + " slots that hold one", 4 * left, desk::collect);
        }
    }
}
