/** Promise 4: make. */
public final class MakeTest {
    private static final Due DUE = new Due();

    public static void main(String[] args) {
        counts();
        wordsOfEachKind();
        newObjectsAreEmpty();
        plainDoesNotLookAtN();
        refusesInOrder();
        roomToTheLastWord();
        whatTheSlotHeldCountsStill();
        longestRows();
        refusedMakeChangesNothing();
        roomIsFoundAgain();
        DUE.end();
    }

    private static void counts() {
        MemoryDesk desk = new MemoryDesk();
        desk.plain(0, 1, 0);
        desk.row(1, MemoryDesk.INTS);
        DUE.number("make(0, 0, 0)", 1, () -> desk.make(0, 0, 0));
        DUE.number("make(0, 0, 0) over it", 2, () -> desk.make(0, 0, 0));
        DUE.number("make(31, 1, 3)", 3, () -> desk.make(31, 1, 3));
        desk.drop(0);
        desk.collect();
        DUE.number("make(0, 0, 0) after collect", 4, () -> desk.make(0, 0, 0));
    }

    private static void wordsOfEachKind() {
        int[][] rows = {
            // elements, n, words
            {0, 0, 4}, {0, 1, 5}, {0, 7, 11},
            {1, 0, 4}, {1, 1, 5}, {1, 4, 5}, {1, 5, 6}, {1, 8, 6}, {1, 9, 7},
            {2, 0, 4}, {2, 1, 5}, {2, 2, 5}, {2, 3, 6},
            {3, 0, 4}, {3, 1, 5}, {3, 7, 11},
            {4, 0, 4}, {4, 1, 6}, {4, 7, 18},
        };
        for (int[] row : rows) {
            MemoryDesk desk = new MemoryDesk();
            desk.row(0, row[0]);
            DUE.number("make(5, 0, " + row[1] + ")", 1, () -> desk.make(5, 0, row[1]));
            DUE.number("collect() with a row of " + row[1] + " of " + row[0], row[2], desk::collect);
            DUE.number("size(5)", row[1], () -> desk.size(5));
        }
        for (int words = 0; words <= 16; words++) {
            MemoryDesk desk = new MemoryDesk();
            desk.plain(0, words, 0);
            desk.make(5, 0, 0);
            DUE.number("collect() with a plain one of " + words, 3 + words, desk::collect);
        }
    }

    private static void newObjectsAreEmpty() {
        MemoryDesk desk = new MemoryDesk();
        desk.plain(0, 2, 2);
        desk.row(1, MemoryDesk.LONGS);
        desk.row(2, MemoryDesk.REFERENCES);
        desk.memory(16);
        for (int time = 0; time < 2; time++) {
            desk.make(0, 0, 0);
            DUE.number("get(0, 0) of a new one", 0, () -> desk.get(0, 0));
            DUE.truth("follow(0, 1, 1) of a new one", false, () -> desk.follow(0, 1, 1));
            desk.put(0, 0, -1);
            desk.link(0, 1, 0);
            desk.drop(0);
            desk.make(0, 1, 3);
            DUE.number("get(0, 2) of a new row", 0, () -> desk.get(0, 2));
            desk.put(0, 2, -1);
            desk.drop(0);
            desk.make(0, 2, 3);
            DUE.truth("follow(0, 2, 1) of a new row", false, () -> desk.follow(0, 2, 1));
            desk.link(0, 2, 0);
            desk.drop(0);
        }
    }

    private static void plainDoesNotLookAtN() {
        MemoryDesk desk = new MemoryDesk();
        desk.plain(0, 3, 0);
        DUE.number("make(0, 0, -1)", 1, () -> desk.make(0, 0, -1));
        DUE.number("make(1, 0, MIN)", 2, () -> desk.make(1, 0, Integer.MIN_VALUE));
        DUE.number("make(2, 0, MAX)", 3, () -> desk.make(2, 0, Integer.MAX_VALUE));
        DUE.number("size(2)", 3, () -> desk.size(2));
        DUE.number("collect()", 18, desk::collect);
    }

    private static void refusesInOrder() {
        MemoryDesk desk = new MemoryDesk();
        desk.row(0, MemoryDesk.INTS);
        DUE.refused("make(-1, 0, 0)", Due.ARGUMENT, () -> desk.make(-1, 0, 0));
        DUE.refused("make(32, 0, 0)", Due.ARGUMENT, () -> desk.make(32, 0, 0));
        DUE.refused("make(0, -1, 0)", Due.ARGUMENT, () -> desk.make(0, -1, 0));
        DUE.refused("make(0, 16, 0)", Due.ARGUMENT, () -> desk.make(0, 16, 0));
        DUE.refused("make(0, 0, -1) of a row", Due.ARGUMENT, () -> desk.make(0, 0, -1));
        DUE.refused("make(0, 0, MIN) of a row", Due.ARGUMENT, () -> desk.make(0, 0, Integer.MIN_VALUE));
        DUE.refused("make(0, 1, 0) of no kind", Due.STATE, () -> desk.make(0, 1, 0));
        DUE.refused("make(0, 1, -1) of no kind", Due.STATE, () -> desk.make(0, 1, -1));
        DUE.refused("make(32, 1, -1) of no kind", Due.ARGUMENT, () -> desk.make(32, 1, -1));
        DUE.refused("make(0, 0, 70000)", Due.UNSUPPORTED, () -> desk.make(0, 0, 70000));
        DUE.refused("make(32, 0, 70000)", Due.ARGUMENT, () -> desk.make(32, 0, 70000));
    }

    private static void roomToTheLastWord() {
        MemoryDesk desk = new MemoryDesk();
        desk.plain(0, 16, 0);
        desk.row(1, MemoryDesk.OCTETS);
        desk.memory(40);
        DUE.number("make(0, 0, 0), 19 of 40", 1, () -> desk.make(0, 0, 0));
        DUE.refused("make(1, 1, 69), 22 words", Due.UNSUPPORTED, () -> desk.make(1, 1, 69));
        DUE.number("make(1, 1, 68), 21 words", 2, () -> desk.make(1, 1, 68));
        DUE.number("collect()", 40, desk::collect);
        DUE.refused("make(2, 1, 0)", Due.UNSUPPORTED, () -> desk.make(2, 1, 0));
    }

    private static void whatTheSlotHeldCountsStill() {
        MemoryDesk desk = new MemoryDesk();
        desk.plain(0, 7, 0);
        desk.memory(19);
        DUE.number("make(0, 0, 0)", 1, () -> desk.make(0, 0, 0));
        DUE.refused("make(0, 0, 0) over it", Due.UNSUPPORTED, () -> desk.make(0, 0, 0));
        DUE.truth("memory(20)", true, () -> desk.memory(20));
        DUE.number("make(0, 0, 0) over it", 2, () -> desk.make(0, 0, 0));
        DUE.number("make(0, 0, 0) over it again", 3, () -> desk.make(0, 0, 0));
        DUE.number("collect()", 10, desk::collect);
    }

    private static void longestRows() {
        int[][] fitting = {{0, 65532}, {1, 4 * 65532}, {2, 2 * 65532}, {3, 65532}, {4, 32766}};
        for (int[] f : fitting) {
            MemoryDesk desk = new MemoryDesk();
            desk.row(0, f[0]);
            String row = " of a row of " + f[0];
            DUE.refused("make(0, 0, " + (f[1] + 1) + ")" + row, Due.UNSUPPORTED,
                () -> desk.make(0, 0, f[1] + 1));
            DUE.refused("make(0, 0, MAX)" + row, Due.UNSUPPORTED, () -> desk.make(0, 0, Integer.MAX_VALUE));
            DUE.refused("make(0, 0, 2^30)" + row, Due.UNSUPPORTED, () -> desk.make(0, 0, 1 << 30));
            DUE.number("make(0, 0, " + f[1] + ")" + row, 1, () -> desk.make(0, 0, f[1]));
            DUE.number("collect()" + row, 65536, desk::collect);
            DUE.number("size(0)" + row, f[1], () -> desk.size(0));
        }
    }

    private static void refusedMakeChangesNothing() {
        MemoryDesk desk = new MemoryDesk();
        desk.plain(0, 13, 0);
        desk.memory(16);
        desk.make(0, 0, 0);
        desk.put(0, 5, 55);
        desk.copy(1, 0);
        DUE.refused("make(0, 0, 0)", Due.UNSUPPORTED, () -> desk.make(0, 0, 0));
        DUE.refused("make(0, 1, 0)", Due.STATE, () -> desk.make(0, 1, 0));
        DUE.refused("make(0, 16, 0)", Due.ARGUMENT, () -> desk.make(0, 16, 0));
        DUE.truth("same(0, 1)", true, () -> desk.same(0, 1));
        DUE.number("get(0, 5)", 55, () -> desk.get(0, 5));
        desk.memory(65536);
        DUE.number("make(0, 0, 0), the second that was made", 2, () -> desk.make(0, 0, 0));
    }

    private static void roomIsFoundAgain() {
        MemoryDesk desk = new MemoryDesk();
        desk.plain(0, 2, 1);
        desk.memory(16);
        desk.make(0, 0, 0);
        desk.put(0, 1, 11);
        for (int time = 2; time < 100; time++) {
            int count = time;
            DUE.number("make(1, 0, 0)", count, () -> desk.make(1, 0, 0));
        }
        DUE.number("get(0, 1)", 11, () -> desk.get(0, 1));
        DUE.number("collect()", 10, desk::collect);
    }
}
