/** Promises 10 and 11: link and follow. */
public final class ReferencesTest {
    private static final Due DUE = new Due();

    public static void main(String[] args) {
        linksAndFollows();
        linksToNone();
        followsIntoItself();
        followsNone();
        rowsOfReferences();
        longChain();
        refusesInOrder();
        DUE.end();
    }

    private static MemoryDesk deskOfPairs() {
        MemoryDesk desk = new MemoryDesk();
        desk.plain(0, 3, 3);
        for (int s = 0; s < 3; s++) {
            desk.make(s, 0, 0);
            desk.put(s, 2, 10 + s);
        }
        return desk;
    }

    private static void linksAndFollows() {
        MemoryDesk desk = deskOfPairs();
        DUE.truth("link(0, 0, 1)", false, () -> desk.link(0, 0, 1));
        DUE.truth("link(0, 1, 2): the other reference", false, () -> desk.link(0, 1, 2));
        DUE.truth("link(0, 0, 2) over it", true, () -> desk.link(0, 0, 2));
        DUE.truth("link(0, 0, 1) over it", true, () -> desk.link(0, 0, 1));
        desk.drop(1);
        desk.drop(2);
        DUE.number("collect()", 18, desk::collect);
        DUE.truth("follow(0, 0, 31)", true, () -> desk.follow(0, 0, 31));
        DUE.number("get(31, 2)", 11, () -> desk.get(31, 2));
        DUE.truth("follow(0, 1, 31) over what was held", true, () -> desk.follow(0, 1, 31));
        DUE.number("get(31, 2)", 12, () -> desk.get(31, 2));
        desk.follow(0, 1, 5);
        DUE.truth("same(5, 31)", true, () -> desk.same(5, 31));
    }

    private static void linksToNone() {
        MemoryDesk desk = deskOfPairs();
        DUE.truth("link(0, 0, 9) to none", false, () -> desk.link(0, 0, 9));
        DUE.truth("link(0, 0, 1) after none", false, () -> desk.link(0, 0, 1));
        desk.drop(1);
        DUE.number("collect()", 18, desk::collect);
        DUE.truth("link(0, 0, 9) to none", true, () -> desk.link(0, 0, 9));
        DUE.number("collect(): the one that was named is gone", 12, desk::collect);
        DUE.truth("follow(0, 0, 2)", false, () -> desk.follow(0, 0, 2));
        DUE.refused("size(2)", Due.STATE, () -> desk.size(2));
    }

    private static void followsIntoItself() {
        MemoryDesk desk = deskOfPairs();
        desk.link(0, 0, 1);
        desk.link(1, 0, 2);
        desk.link(2, 0, 0);
        desk.drop(1);
        desk.drop(2);
        for (int step = 1; step <= 6; step++) {
            int want = 10 + step % 3;
            DUE.truth("follow(0, 0, 0)", true, () -> desk.follow(0, 0, 0));
            DUE.number("get(0, 2)", want, () -> desk.get(0, 2));
            DUE.number("collect() of the ring", 18, desk::collect);
        }
        DUE.truth("link(0, 1, 0) to itself", false, () -> desk.link(0, 1, 0));
        DUE.truth("follow(0, 1, 1)", true, () -> desk.follow(0, 1, 1));
        DUE.truth("same(0, 1)", true, () -> desk.same(0, 1));
        desk.drop(0);
        desk.drop(1);
        DUE.number("collect(): a ring that nobody holds is gone", 0, desk::collect);
    }

    private static void followsNone() {
        MemoryDesk desk = deskOfPairs();
        DUE.truth("follow(0, 0, 1)", false, () -> desk.follow(0, 0, 1));
        DUE.refused("size(1): the slot holds none now", Due.STATE, () -> desk.size(1));
        DUE.truth("follow(0, 1, 0)", false, () -> desk.follow(0, 1, 0));
        DUE.refused("size(0)", Due.STATE, () -> desk.size(0));
        DUE.number("collect()", 6, desk::collect);
    }

    private static void rowsOfReferences() {
        MemoryDesk desk = new MemoryDesk();
        desk.row(0, MemoryDesk.REFERENCES);
        desk.plain(1, 1, 0);
        desk.make(0, 0, 1000);
        int[] places = {0, 1, 500, 998, 999};
        for (int k : places) {
            desk.make(1, 1, 0);
            desk.put(1, 0, k);
            DUE.truth("link(0, " + k + ", 1)", false, () -> desk.link(0, k, 1));
        }
        desk.drop(1);
        DUE.number("collect()", 1004 + 4 * places.length, desk::collect);
        for (int k : places) {
            DUE.truth("follow(0, " + k + ", 1)", true, () -> desk.follow(0, k, 1));
            DUE.number("get(1, 0)", k, () -> desk.get(1, 0));
        }
        DUE.truth("follow(0, 2, 1)", false, () -> desk.follow(0, 2, 1));
    }

    /** Longer than a collector that calls itself could go by LANGUAGE.md. */
    private static void longChain() {
        MemoryDesk desk = new MemoryDesk();
        desk.plain(0, 2, 1);
        for (int i = 1; i <= 150; i++) {
            int s = i % 2;
            desk.make(s, 0, 0);
            desk.put(s, 1, i);
            desk.link(s, 0, 1 - s);
        }
        desk.drop(1);
        DUE.number("collect() of a long chain", 750, desk::collect);
        for (int i = 150; i > 140; i--) {
            int want = i;
            DUE.number("get(0, 1)", want, () -> desk.get(0, 1));
            DUE.truth("follow(0, 0, 0)", true, () -> desk.follow(0, 0, 0));
            DUE.number("collect()", 5 * (want - 1), desk::collect);
        }
    }

    private static void refusesInOrder() {
        MemoryDesk desk = new MemoryDesk();
        desk.plain(0, 3, 5);
        desk.row(1, MemoryDesk.OCTETS);
        desk.make(0, 0, 0);
        desk.make(1, 1, 2);
        int[] slots = {-1, 32, Integer.MIN_VALUE, Integer.MAX_VALUE};
        for (int s : slots) {
            refused(desk, s, 0, 0, Due.ARGUMENT);
            refused(desk, 0, 0, s, Due.ARGUMENT);
            refused(desk, 0, -1, s, Due.ARGUMENT);
            refused(desk, 0, 1, s, Due.ARGUMENT);
            refused(desk, 9, 0, s, Due.ARGUMENT);
        }
        refused(desk, 9, 0, 0, Due.STATE);
        refused(desk, 9, -1, 9, Due.STATE);
        int[] places = {-1, 3, 16, 32, 34, Integer.MIN_VALUE, Integer.MAX_VALUE};
        for (int k : places) {
            refused(desk, 0, k, 1, Due.INDEX);
            refused(desk, 1, k, 1, Due.INDEX);
        }
        refused(desk, 1, 2, 0, Due.INDEX);
        refused(desk, 0, 1, 1, Due.UNSUPPORTED);
        refused(desk, 1, 0, 0, Due.UNSUPPORTED);
        refused(desk, 1, 1, 9, Due.UNSUPPORTED);
        DUE.number("size(1): slot 1 holds what it held", 2, () -> desk.size(1));
        DUE.truth("follow(0, 0, 9): nothing was linked", false, () -> desk.follow(0, 0, 9));
        DUE.truth("follow(0, 2, 9): nothing was linked", false, () -> desk.follow(0, 2, 9));
    }

    private static void refused(MemoryDesk desk, int s, int k, int t, Class<? extends Exception> want) {
        String rest = "(" + s + ", " + k + ", " + t + ")";
        DUE.refused("link" + rest, want, () -> desk.link(s, k, t));
        DUE.refused("follow" + rest, want, () -> desk.follow(s, k, t));
    }
}
