/** Promises 5, 6 and 7: copy, drop and same. */
public final class SlotsTest {
    private static final Due DUE = new Due();

    public static void main(String[] args) {
        copies();
        drops();
        tellsSame();
        refuses();
        DUE.end();
    }

    private static MemoryDesk deskWithTwo() {
        MemoryDesk desk = new MemoryDesk();
        desk.plain(0, 1, 0);
        desk.make(0, 0, 0);
        desk.make(1, 0, 0);
        desk.put(0, 0, 10);
        desk.put(1, 0, 11);
        return desk;
    }

    private static void copies() {
        MemoryDesk desk = deskWithTwo();
        DUE.truth("copy(31, 0)", true, () -> desk.copy(31, 0));
        DUE.number("get(31, 0)", 10, () -> desk.get(31, 0));
        desk.put(31, 0, 12);
        DUE.number("get(0, 0): it is the same object", 12, () -> desk.get(0, 0));
        DUE.truth("copy(0, 1) over what was held", true, () -> desk.copy(0, 1));
        DUE.number("get(0, 0)", 11, () -> desk.get(0, 0));
        DUE.number("get(31, 0)", 12, () -> desk.get(31, 0));
        DUE.truth("copy(1, 1) onto itself", true, () -> desk.copy(1, 1));
        DUE.number("get(1, 0)", 11, () -> desk.get(1, 0));
        DUE.truth("copy(5, 6) of none", false, () -> desk.copy(5, 6));
        DUE.truth("copy(31, 6) of none", false, () -> desk.copy(31, 6));
        DUE.refused("size(31)", Due.STATE, () -> desk.size(31));
        DUE.number("collect(): one object is left", 4, desk::collect);
    }

    private static void drops() {
        MemoryDesk desk = deskWithTwo();
        desk.copy(2, 0);
        DUE.truth("drop(0)", true, () -> desk.drop(0));
        DUE.truth("drop(0) again", false, () -> desk.drop(0));
        DUE.refused("size(0)", Due.STATE, () -> desk.size(0));
        DUE.number("get(2, 0): another slot holds it still", 10, () -> desk.get(2, 0));
        DUE.number("collect()", 8, desk::collect);
        DUE.truth("drop(2)", true, () -> desk.drop(2));
        DUE.number("collect()", 4, desk::collect);
        DUE.truth("drop(31)", false, () -> desk.drop(31));
    }

    private static void tellsSame() {
        MemoryDesk desk = deskWithTwo();
        DUE.truth("same(0, 1)", false, () -> desk.same(0, 1));
        DUE.truth("same(0, 0)", true, () -> desk.same(0, 0));
        DUE.truth("same(0, 2), one of them none", false, () -> desk.same(0, 2));
        DUE.truth("same(2, 0), one of them none", false, () -> desk.same(2, 0));
        DUE.truth("same(2, 31), both none", true, () -> desk.same(2, 31));
        desk.copy(2, 1);
        desk.collect();
        DUE.truth("same(2, 1)", true, () -> desk.same(2, 1));
        DUE.truth("same(2, 0)", false, () -> desk.same(2, 0));
        desk.put(0, 0, 11);
        DUE.truth("same(0, 1): equal is not the same", false, () -> desk.same(0, 1));
    }

    private static void refuses() {
        MemoryDesk desk = deskWithTwo();
        int[] wrong = {-1, 32, Integer.MIN_VALUE, Integer.MAX_VALUE};
        for (int w : wrong) {
            DUE.refused("copy(" + w + ", 0)", Due.ARGUMENT, () -> desk.copy(w, 0));
            DUE.refused("copy(0, " + w + ")", Due.ARGUMENT, () -> desk.copy(0, w));
            DUE.refused("drop(" + w + ")", Due.ARGUMENT, () -> desk.drop(w));
            DUE.refused("same(" + w + ", 0)", Due.ARGUMENT, () -> desk.same(w, 0));
            DUE.refused("same(0, " + w + ")", Due.ARGUMENT, () -> desk.same(0, w));
            DUE.refused("same(" + w + ", " + w + ")", Due.ARGUMENT, () -> desk.same(w, w));
        }
        DUE.number("get(0, 0) is what it was", 10, () -> desk.get(0, 0));
    }
}
