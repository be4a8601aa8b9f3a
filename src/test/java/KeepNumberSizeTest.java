/** Promises 12, 13 and 14: keep, number and size. */
public final class KeepNumberSizeTest {
    private static final Due DUE = new Due();

    public static void main(String[] args) {
        keepsForEver();
        keepsWhatIsNamed();
        numbersInTheOrderAsked();
        tellsSizes();
        refuses();
        DUE.end();
    }

    private static void keepsForEver() {
        MemoryDesk desk = new MemoryDesk();
        desk.plain(0, 1, 0);
        desk.make(0, 0, 0);
        desk.make(1, 0, 0);
        desk.make(2, 0, 0);
        DUE.number("keep(0)", 1, () -> desk.keep(0));
        DUE.number("keep(0) again", 2, () -> desk.keep(0));
        DUE.number("keep(2)", 3, () -> desk.keep(2));
        desk.copy(5, 0);
        DUE.number("keep(5), the one in slot 0", 4, () -> desk.keep(5));
        desk.drop(0);
        desk.drop(1);
        desk.drop(2);
        desk.drop(5);
        DUE.number("collect(): two are kept, each counted once", 8, desk::collect);
        DUE.number("collect() again", 8, desk::collect);
        desk.memory(16);
        DUE.number("make(0, 0, 0)", 4, () -> desk.make(0, 0, 0));
        DUE.number("make(1, 0, 0)", 5, () -> desk.make(1, 0, 0));
        DUE.refused("make(2, 0, 0): what is kept takes its room", Due.UNSUPPORTED, () -> desk.make(2, 0, 0));
    }

    private static void keepsWhatIsNamed() {
        MemoryDesk desk = new MemoryDesk();
        desk.plain(0, 2, 3);
        desk.row(1, MemoryDesk.INTS);
        desk.make(0, 0, 0);
        desk.make(1, 0, 0);
        desk.make(2, 1, 6);
        desk.link(0, 0, 1);
        desk.link(1, 1, 2);
        desk.keep(0);
        desk.drop(1);
        desk.drop(2);
        desk.copy(3, 0);
        desk.drop(0);
        DUE.number("collect() with slot 3", 20, desk::collect);
        desk.drop(3);
        DUE.number("collect() without slots", 20, desk::collect);
    }

    private static void numbersInTheOrderAsked() {
        MemoryDesk desk = new MemoryDesk();
        desk.plain(0, 1, 1);
        for (int s = 0; s < 4; s++) {
            desk.make(s, 0, 0);
        }
        DUE.number("number(2)", 1, () -> desk.number(2));
        DUE.number("number(0)", 2, () -> desk.number(0));
        DUE.number("number(2) again", 1, () -> desk.number(2));
        desk.copy(9, 0);
        DUE.number("number(9), the one in slot 0", 2, () -> desk.number(9));
        desk.drop(2);
        desk.collect();
        DUE.number("number(1): a number is not given twice", 3, () -> desk.number(1));
        desk.link(1, 0, 3);
        desk.drop(3);
        desk.make(0, 0, 0);
        desk.collect();
        DUE.number("number(0) of a new one", 4, () -> desk.number(0));
        desk.follow(1, 0, 3);
        DUE.number("number(3)", 5, () -> desk.number(3));
        DUE.number("number(9) after all", 2, () -> desk.number(9));
    }

    private static void tellsSizes() {
        MemoryDesk desk = new MemoryDesk();
        desk.plain(0, 0, 0);
        desk.plain(1, 16, 0xFF);
        DUE.number("make(0, 0, 9)", 1, () -> desk.make(0, 0, 9));
        DUE.number("size(0)", 0, () -> desk.size(0));
        DUE.number("make(31, 1, 9)", 2, () -> desk.make(31, 1, 9));
        DUE.number("size(31)", 16, () -> desk.size(31));
        for (int elements = 0; elements <= 4; elements++) {
            int e = elements;
            desk.row(2 + e, e);
            desk.make(1, 2 + e, 0);
            DUE.number("size(1) of an empty row of " + e, 0, () -> desk.size(1));
            desk.make(1, 2 + e, 13);
            desk.collect();
            DUE.number("size(1) of a row of " + e, 13, () -> desk.size(1));
        }
    }

    private static void refuses() {
        MemoryDesk desk = new MemoryDesk();
        desk.plain(0, 1, 0);
        int[] wrong = {-1, 32, Integer.MIN_VALUE, Integer.MAX_VALUE};
        for (int w : wrong) {
            DUE.refused("keep(" + w + ")", Due.ARGUMENT, () -> desk.keep(w));
            DUE.refused("number(" + w + ")", Due.ARGUMENT, () -> desk.number(w));
            DUE.refused("size(" + w + ")", Due.ARGUMENT, () -> desk.size(w));
        }
        DUE.refused("keep(0) of none", Due.STATE, () -> desk.keep(0));
        DUE.refused("number(0) of none", Due.STATE, () -> desk.number(0));
        DUE.refused("size(0) of none", Due.STATE, () -> desk.size(0));
        desk.make(0, 0, 0);
        DUE.number("keep(0): the refused ones did not count", 1, () -> desk.keep(0));
        DUE.number("number(0): the refused ones did not count", 1, () -> desk.number(0));
    }
}
