/** Promises 1, 2 and 3: a new object, plain, row. */
public final class KindsTest {
    private static final Due DUE = new Due();

    public static void main(String[] args) {
        newDeskHasNothing();
        desksShareNothing();
        plainTakesItsNumbers();
        plainRefuses();
        rowTakesItsNumbers();
        rowRefuses();
        refusedKindStaysUndefined();
        DUE.end();
    }

    private static void newDeskHasNothing() {
        MemoryDesk desk = new MemoryDesk();
        DUE.number("collect() on a new desk", 0, desk::collect);
        for (int k = 0; k < 16; k++) {
            int kind = k;
            DUE.refused("make(0, " + k + ", 0) on a new desk", Due.STATE, () -> desk.make(0, kind, 0));
        }
        for (int s = 0; s < 32; s++) {
            int slot = s;
            DUE.refused("size(" + s + ") on a new desk", Due.STATE, () -> desk.size(slot));
        }
        DUE.truth("same(0, 31) on a new desk", true, () -> desk.same(0, 31));
    }

    private static void desksShareNothing() {
        MemoryDesk first = new MemoryDesk();
        MemoryDesk second = new MemoryDesk();
        DUE.done("plain(0, 1, 0) on the first", () -> first.plain(0, 1, 0));
        DUE.number("make(0, 0, 0) on the first", 1, () -> first.make(0, 0, 0));
        DUE.number("number(0) on the first", 1, () -> first.number(0));
        DUE.number("keep(0) on the first", 1, () -> first.keep(0));
        DUE.refused("make(0, 0, 0) on the second", Due.STATE, () -> second.make(0, 0, 0));
        DUE.done("plain(0, 2, 0) on the second", () -> second.plain(0, 2, 0));
        DUE.number("make(0, 0, 0) on the second", 1, () -> second.make(0, 0, 0));
        DUE.number("number(0) on the second", 1, () -> second.number(0));
        DUE.number("keep(0) on the second", 1, () -> second.keep(0));
        DUE.number("collect() on the first", 4, first::collect);
        DUE.number("collect() on the second", 5, second::collect);
    }

    private static void plainTakesItsNumbers() {
        MemoryDesk desk = new MemoryDesk();
        DUE.done("plain(0, 0, 0)", () -> desk.plain(0, 0, 0));
        DUE.done("plain(15, 16, 0xFFFF)", () -> desk.plain(15, 16, 0xFFFF));
        DUE.done("plain(7, 16, 0x8001)", () -> desk.plain(7, 16, 0x8001));
        DUE.number("make(0, 0, 0)", 1, () -> desk.make(0, 0, 0));
        DUE.number("size(0)", 0, () -> desk.size(0));
        DUE.number("collect() with no words", 3, desk::collect);
        DUE.number("make(1, 7, 0)", 2, () -> desk.make(1, 7, 0));
        DUE.number("collect() with 16 words more", 22, desk::collect);
        for (int k = 0; k < 16; k++) {
            int word = k;
            if (k == 0 || k == 15) {
                DUE.refused("get(1, " + k + ")", Due.UNSUPPORTED, () -> desk.get(1, word));
                DUE.truth("follow(1, " + k + ", 9)", false, () -> desk.follow(1, word, 9));
            } else {
                DUE.number("get(1, " + k + ")", 0, () -> desk.get(1, word));
                DUE.refused("follow(1, " + k + ", 9)", Due.UNSUPPORTED, () -> desk.follow(1, word, 9));
            }
        }
    }

    private static void plainRefuses() {
        MemoryDesk desk = new MemoryDesk();
        int[][] wrong = {
            {-1, 1, 0}, {16, 1, 0}, {Integer.MIN_VALUE, 1, 0}, {Integer.MAX_VALUE, 1, 0},
            {0, -1, 0}, {0, 17, 0}, {0, Integer.MIN_VALUE, 0}, {0, Integer.MAX_VALUE, 0}, {0, 32, 0},
            {0, 0, 1}, {0, 2, 4}, {0, 3, 15}, {0, 16, 0x10000}, {0, 16, -1}, {0, 5, Integer.MIN_VALUE},
        };
        for (int[] w : wrong) {
            DUE.refused("plain(" + w[0] + ", " + w[1] + ", " + w[2] + ")", Due.ARGUMENT,
                () -> desk.plain(w[0], w[1], w[2]));
        }
        DUE.done("plain(3, 2, 1)", () -> desk.plain(3, 2, 1));
        DUE.done("row(4, 3)", () -> desk.row(4, 3));
        DUE.refused("plain(3, 2, 1) again", Due.ARGUMENT, () -> desk.plain(3, 2, 1));
        DUE.refused("plain(4, 2, 1) after row", Due.ARGUMENT, () -> desk.plain(4, 2, 1));
    }

    private static void rowTakesItsNumbers() {
        MemoryDesk desk = new MemoryDesk();
        for (int elements = 0; elements <= 4; elements++) {
            int e = elements;
            DUE.done("row(" + (e + 11) + ", " + e + ")", () -> desk.row(e + 11, e));
            DUE.number("make(" + e + ", " + (e + 11) + ", 1)", e + 1, () -> desk.make(e, e + 11, 1));
        }
        DUE.refused("get(0, 0) of references", Due.UNSUPPORTED, () -> desk.get(0, 0));
        DUE.truth("link(0, 0, 0) of references", false, () -> desk.link(0, 0, 0));
        for (int s = 1; s <= 4; s++) {
            int slot = s;
            DUE.number("get(" + s + ", 0)", 0, () -> desk.get(slot, 0));
            DUE.refused("link(" + s + ", 0, 0)", Due.UNSUPPORTED, () -> desk.link(slot, 0, 0));
        }
    }

    private static void rowRefuses() {
        MemoryDesk desk = new MemoryDesk();
        int[][] wrong = {
            {-1, 0}, {16, 0}, {Integer.MIN_VALUE, 0}, {Integer.MAX_VALUE, 0},
            {0, -1}, {0, 5}, {0, Integer.MIN_VALUE}, {0, Integer.MAX_VALUE},
        };
        for (int[] w : wrong) {
            DUE.refused("row(" + w[0] + ", " + w[1] + ")", Due.ARGUMENT, () -> desk.row(w[0], w[1]));
        }
        DUE.done("row(3, 1)", () -> desk.row(3, 1));
        DUE.done("plain(4, 1, 1)", () -> desk.plain(4, 1, 1));
        DUE.refused("row(3, 1) again", Due.ARGUMENT, () -> desk.row(3, 1));
        DUE.refused("row(4, 1) after plain", Due.ARGUMENT, () -> desk.row(4, 1));
    }

    private static void refusedKindStaysUndefined() {
        MemoryDesk desk = new MemoryDesk();
        DUE.refused("plain(0, 2, 4)", Due.ARGUMENT, () -> desk.plain(0, 2, 4));
        DUE.refused("row(0, 5)", Due.ARGUMENT, () -> desk.row(0, 5));
        DUE.refused("make(0, 0, 0)", Due.STATE, () -> desk.make(0, 0, 0));
        DUE.done("row(0, 4)", () -> desk.row(0, 4));
        DUE.refused("plain(0, 1, 0)", Due.ARGUMENT, () -> desk.plain(0, 1, 0));
        DUE.number("make(0, 0, 2)", 1, () -> desk.make(0, 0, 2));
        DUE.number("collect() shows that kind 0 is still the row", 8, desk::collect);
    }
}
