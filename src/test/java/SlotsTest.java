/** Promises 5, 6 and 7: copy, drop and same. */
public final class SlotsTest {
    public static void main(String[] args) {
        Due due = new Due();
        due.says("Promise 5", "SLOT s holds what SLOT t holds", SlotsTest::copiesOne);
        due.says("Promise 5", "(perhaps none)", SlotsTest::copiesNone);
        due.says("Promise 5", "whether that is one.", SlotsTest::tellsWhetherItCopiedOne);
        due.says("Promise 6", "SLOT s holds none", SlotsTest::drops);
        due.says("Promise 6", "whether it held one.", SlotsTest::tellsWhetherItHeldOne);
        due.says("Promise 7", "Whether SLOTS s and t hold the same OBJECT", SlotsTest::tellsSame);
        due.says("Promise 7", "(or none both)", SlotsTest::noneIsTheSameAsNone);
        due.end();
    }

    /** Slots 0 and 1 hold objects of one word, which are 10 and 11. */
    private static Run withTwo(Run run) {
        return run.rows(
            "plain(0, 1, 0) -> done",
            "make(0, 0, 0) -> 1", "put(0, 0, 10) -> done",
            "make(1, 0, 0) -> 2", "put(1, 0, 11) -> done");
    }

    private static void copiesOne(Run run) {
        withTwo(run).rows(
            "copy(31, 0) -> true", "get(31, 0) -> 10", "get(0, 0) -> 10",
            "put(31, 0, 12) -> done", "get(0, 0) -> 12",
            "copy(0, 1) -> true", "get(0, 0) -> 11", "get(1, 0) -> 11", "get(31, 0) -> 12",
            "copy(1, 1) -> true", "get(1, 0) -> 11",
            "copy(31, 1) -> true", "collect() -> 4");
    }

    private static void copiesNone(Run run) {
        withTwo(run).rows(
            "copy(0, 6) -> false", "size(0) -> IllegalStateException", "get(1, 0) -> 11", "collect() -> 4",
            "copy(5, 6) -> false", "size(5) -> IllegalStateException",
            "copy(6, 6) -> false", "size(6) -> IllegalStateException",
            "copy(1, 31) -> false", "collect() -> 0");
    }

    private static void tellsWhetherItCopiedOne(Run run) {
        withTwo(run).rows(
            "copy(2, 0) -> true", "copy(0, 1) -> true", "copy(0, 0) -> true",
            "copy(3, 4) -> false", "copy(0, 4) -> false", "copy(0, 0) -> false", "copy(0, 2) -> true");
    }

    private static void drops(Run run) {
        withTwo(run).rows(
            "copy(2, 0) -> true", "drop(0) -> true", "size(0) -> IllegalStateException",
            "get(2, 0) -> 10", "get(1, 0) -> 11", "collect() -> 8",
            "drop(2) -> true", "collect() -> 4",
            "copy(31, 1) -> true", "drop(31) -> true", "size(31) -> IllegalStateException", "get(1, 0) -> 11");
    }

    private static void tellsWhetherItHeldOne(Run run) {
        withTwo(run).rows(
            "drop(0) -> true", "drop(0) -> false", "drop(31) -> false", "drop(1) -> true", "drop(1) -> false",
            "make(1, 0, 0) -> 3", "drop(1) -> true");
    }

    private static void tellsSame(Run run) {
        withTwo(run).rows(
            "same(0, 1) -> false", "same(1, 0) -> false", "same(0, 0) -> true",
            "copy(31, 1) -> true", "same(31, 1) -> true", "same(1, 31) -> true", "same(31, 0) -> false",
            "collect() -> 8", "same(31, 1) -> true",
            "put(0, 0, 11) -> done", "same(0, 1) -> false",
            "copy(31, 0) -> true", "same(31, 1) -> false", "same(31, 0) -> true");
    }

    private static void noneIsTheSameAsNone(Run run) {
        run.rows("same(0, 31) -> true", "same(7, 7) -> true");
        withTwo(run).rows(
            "same(0, 2) -> false", "same(2, 0) -> false", "same(2, 31) -> true",
            "drop(0) -> true", "same(0, 2) -> true", "same(0, 1) -> false");
    }
}
