/** The order in which a call looks for what is wrong: the section "Terms". */
public final class OrderTest {
    private static final String FIRST = "is looked for first in each call";
    private static final String SLOT = "a SLOT or KIND that is not 0..31, 0..15";
    private static final String NUMBER = "or a number that is not as said";
    private static final String STATE = "then IllegalStateException (the SLOT holds none, the KIND is not defined)";
    private static final String PLACE = "no such WORD or element before what kind it is.";

    public static void main(String[] args) {
        Due due = new Due();
        due.says("Terms", SLOT, OrderTest::slotBeforeAll);
        due.says("Terms", SLOT, OrderTest::secondSlotBeforeAll);
        due.says("Terms", SLOT, OrderTest::kindBeforeAll);
        due.says("Terms", NUMBER, OrderTest::numberBeforeAll);
        due.says("Terms", FIRST, OrderTest::severalNumbersAtOnce);
        due.says("Terms", STATE, OrderTest::emptySlotBeforeThePlace);
        due.says("Terms", STATE, OrderTest::noKindBeforeNoRoom);
        due.says("Terms", STATE, OrderTest::onlyTheFirstSlotMustHoldOne);
        due.says("Terms", "then what each call names, in order", OrderTest::placeThenKind);
        due.says("Terms", PLACE, OrderTest::placeBeforeKind);
        due.end();
    }

    /** A full memory: slot 0 holds two references and a word, slot 1 a row of octets, slot 2 one of references. */
    private static Run full(Run run) {
        return run.rows(
            "plain(0, 3, 3) -> done", "row(1, 1) -> done", "row(2, 0) -> done", "memory(16) -> true",
            "make(0, 0, 0) -> 1", "make(1, 1, 4) -> 2", "make(2, 2, 1) -> 3", "collect() -> 16",
            "make(9, 1, 0) -> UnsupportedOperationException");
    }

    private static void slotBeforeAll(Run run) {
        full(run).each("IllegalArgumentException",
            "make(-1, 0, 0)", "make(32, 0, 0)", "make(32, 1, -1)", "make(-1, 5, 0)", "make(32, 5, -1)",
            "get(-1, 0)", "get(32, 3)", "get(32, -1)", "put(-1, 0, 1)", "put(32, 3, 1)", "put(32, -1, 1)",
            "link(-1, 2, 0)", "link(32, 3, 9)", "link(32, -1, 32)", "follow(-1, 2, 0)", "follow(32, 3, 9)",
            "follow(32, -1, 32)");
    }

    private static void secondSlotBeforeAll(Run run) {
        full(run).each("IllegalArgumentException",
            "copy(9, 32)", "copy(9, -1)", "same(9, 32)", "same(9, -1)",
            "link(9, 0, 32)", "link(9, 0, -1)", "link(0, 3, 32)", "link(0, -1, -1)", "link(0, 2, 32)", "link(1, 0, -1)",
            "follow(9, 0, 32)", "follow(9, 0, -1)", "follow(0, 3, 32)", "follow(0, -1, -1)", "follow(0, 2, 32)",
            "follow(1, 0, -1)");
    }

    private static void kindBeforeAll(Run run) {
        full(run).each("IllegalArgumentException",
            "make(0, -1, 0)", "make(0, 16, 0)", "make(0, 16, 70000)", "make(0, -1, -1)", "plain(16, 1, 0)",
            "row(-1, 0)");
    }

    private static void numberBeforeAll(Run run) {
        full(run).rows(
            "make(9, 1, -1) -> IllegalArgumentException", "make(9, 1, 0) -> UnsupportedOperationException",
            "make(9, 2, -1) -> IllegalArgumentException", "make(9, 2, 0) -> UnsupportedOperationException",
            "memory(15) -> IllegalArgumentException", "memory(16) -> true",
            "memory(20) -> true", "make(9, 1, 0) -> 4",
            "memory(15) -> IllegalArgumentException", "memory(16) -> false", "memory(19) -> false");
    }

    private static void severalNumbersAtOnce(Run run) {
        full(run).each("IllegalArgumentException",
            "plain(16, 17, -1)", "plain(0, 17, -1)", "plain(0, -1, 1)", "plain(-1, -1, -1)", "plain(0, 1, 2)",
            "plain(5, 17, -1)", "plain(5, -1, -1)", "row(16, 5)", "row(0, 5)", "row(-1, -1)", "row(1, -1)",
            "make(32, 16, -1)", "make(-1, -1, -1)", "copy(-1, 32)", "same(-1, 32)", "same(32, 32)", "link(32, 0, 32)",
            "follow(-1, 0, -1)");
    }

    private static void emptySlotBeforeThePlace(Run run) {
        full(run).each("IllegalStateException",
            "get(9, 0)", "get(9, -1)", "get(9, 65536)", "put(9, 0, 1)", "put(9, -1, 1)", "put(9, 65536, 1)",
            "link(9, 0, 0)", "link(9, -1, 0)", "link(9, 65536, 9)", "follow(9, 0, 0)", "follow(9, -1, 0)",
            "follow(9, 65536, 9)", "keep(9)", "number(9)", "size(9)", "keep(31)", "number(31)", "size(31)");
    }

    private static void noKindBeforeNoRoom(Run run) {
        full(run).each("IllegalStateException",
            "make(0, 5, 0)", "make(9, 5, 70000)", "make(9, 15, 2147483647)", "make(9, 3, -1)");
        run.rows("row(5, 1) -> done", "make(9, 5, 70000) -> UnsupportedOperationException");
    }

    private static void onlyTheFirstSlotMustHoldOne(Run run) {
        full(run).rows(
            "link(0, 0, 9) -> false", "follow(0, 0, 9) -> false", "copy(8, 9) -> false", "drop(9) -> false",
            "same(9, 0) -> false", "same(0, 9) -> false");
    }

    private static void placeThenKind(Run run) {
        full(run).rows(
            "get(0, 3) -> IndexOutOfBoundsException", "get(0, 1) -> UnsupportedOperationException", "get(0, 2) -> 0",
            "put(0, 3, 1) -> IndexOutOfBoundsException", "put(0, 1, 1) -> UnsupportedOperationException",
            "put(0, 2, 1) -> done",
            "link(0, 3, 9) -> IndexOutOfBoundsException", "link(0, 2, 9) -> UnsupportedOperationException",
            "link(0, 1, 9) -> false",
            "follow(0, 3, 9) -> IndexOutOfBoundsException", "follow(0, 2, 9) -> UnsupportedOperationException",
            "follow(0, 1, 9) -> false");
    }

    private static void placeBeforeKind(Run run) {
        full(run).each("IndexOutOfBoundsException",
            "get(2, 1)", "get(2, -1)", "get(2, 2147483647)", "put(2, 1, 5)", "put(2, -1, 5)", "put(2, -2147483648, 5)",
            "link(1, 4, 0)", "link(1, -1, 0)", "link(1, 2147483647, 9)", "follow(1, 4, 0)", "follow(1, -1, 0)",
            "follow(1, -2147483648, 9)",
            "get(0, 32)", "get(0, 33)", "put(0, 32, 5)", "put(0, -32, 5)", "link(0, 34, 0)", "follow(0, 34, 0)");
        run.rows(
            "get(2, 0) -> UnsupportedOperationException", "put(2, 0, 5) -> UnsupportedOperationException",
            "link(1, 3, 0) -> UnsupportedOperationException", "follow(1, 3, 0) -> UnsupportedOperationException");
    }
}
