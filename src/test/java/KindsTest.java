/** Promises 1, 2 and 3: a new object, plain and row. */
public final class KindsTest {
    public static void main(String[] args) {
        Due due = new Due();
        due.says("Promise 1", "No KINDS, no OBJECTS.", KindsTest::noKinds);
        due.says("Promise 1", "No KINDS, no OBJECTS.", KindsTest::noObjects);
        due.says("Promise 1", "No KINDS, no OBJECTS.", KindsTest::nothingOfAnotherDesk);
        due.says("Promise 2", "KIND k is PLAIN.", KindsTest::kindIsPlain);
        due.says("Promise 2", "IllegalArgumentException: words is not 0..16", KindsTest::wordsOutside);
        due.says("Promise 2", "or the mask names others", KindsTest::maskOutside);
        due.says("Promise 2", "k is defined already.", KindsTest::plainOverAKind);
        due.says("Promise 3", "KIND k is a ROW.", KindsTest::kindIsARow);
        due.says("Promise 3", "IllegalArgumentException: elements is not 0..4", KindsTest::elementsOutside);
        due.says("Promise 3", "k is defined already.", KindsTest::rowOverAKind);
        due.end();
    }

    private static void noKinds(Run run) {
        for (int k = 0; k <= 15; k++) {
            run.row("make(0, " + k + ", 0)", "IllegalStateException");
        }
    }

    private static void noObjects(Run run) {
        for (int s = 0; s <= 31; s++) {
            run.row("size(" + s + ")", "IllegalStateException");
            run.row("drop(" + s + ")", false);
        }
        run.rows(
            "same(0, 31) -> true",
            "collect() -> 0",
            "plain(0, 1, 0) -> done",
            "make(0, 0, 0) -> 1",
            "keep(0) -> 1",
            "number(0) -> 1");
    }

    private static void nothingOfAnotherDesk(Run run) {
        run.rows(
            "plain(0, 1, 0) -> done", "memory(20) -> true", "make(0, 0, 0) -> 1",
            "number(0) -> 1", "keep(0) -> 1", "collect() -> 4");
        run.anew().rows(
            "make(0, 0, 0) -> IllegalStateException", "size(0) -> IllegalStateException",
            "plain(0, 16, 0) -> done", "make(0, 0, 0) -> 1", "make(1, 0, 0) -> 2",
            "number(1) -> 1", "keep(1) -> 1", "collect() -> 38");
        run.rows("size(0) -> 1", "collect() -> 4");
    }

    private static void kindIsPlain(Run run) {
        run.rows(
            "plain(3, 3, 2) -> done", "make(0, 3, 0) -> 1", "size(0) -> 3",
            "get(0, 0) -> 0", "get(0, 1) -> UnsupportedOperationException", "get(0, 2) -> 0",
            "follow(0, 0, 9) -> UnsupportedOperationException", "follow(0, 1, 9) -> false",
            "follow(0, 2, 9) -> UnsupportedOperationException", "collect() -> 6");
    }

    private static void wordsOutside(Run run) {
        run.rows(
            "plain(0, -1, 0) -> IllegalArgumentException",
            "plain(0, 17, 0) -> IllegalArgumentException",
            "plain(0, 17, 0x1FFFF) -> IllegalArgumentException",
            "plain(0, 32, 0) -> IllegalArgumentException",
            "plain(0, 33, 1) -> IllegalArgumentException",
            "plain(0, -16, 0) -> IllegalArgumentException",
            "plain(0, -2147483648, 0) -> IllegalArgumentException",
            "plain(0, 2147483647, 0) -> IllegalArgumentException",
            "make(0, 0, 0) -> IllegalStateException",
            "plain(0, 0, 0) -> done", "make(0, 0, 0) -> 1", "size(0) -> 0",
            "plain(1, 1, 0) -> done", "make(0, 1, 0) -> 2", "size(0) -> 1",
            "plain(2, 15, 0) -> done", "make(0, 2, 0) -> 3", "size(0) -> 15",
            "plain(3, 16, 0) -> done", "make(0, 3, 0) -> 4", "size(0) -> 16");
    }

    private static void maskOutside(Run first) {
        for (int words = 0; words <= 16; words++) {
            Run run = first.anew();
            String start = "plain(0, " + words + ", ";
            for (int bit = words; bit <= 31; bit++) {
                run.row(start + (1 << bit) + ")", "IllegalArgumentException");
            }
            int all = (1 << words) - 1;
            run.row(start + ((2 << words) - 1) + ")", "IllegalArgumentException");
            run.row(start + "-1)", "IllegalArgumentException");
            run.row("make(0, 0, 0)", "IllegalStateException");
            run.row(start + all + ")", "done");
            run.row("make(0, 0, 0)", 1);
            for (int k = 0; k < words; k++) {
                run.row("link(0, " + k + ", 0)", false);
            }
        }
    }

    private static void plainOverAKind(Run run) {
        run.rows(
            "plain(3, 2, 1) -> done", "row(4, 4) -> done",
            "plain(3, 2, 1) -> IllegalArgumentException", "plain(3, 5, 0) -> IllegalArgumentException",
            "plain(4, 2, 1) -> IllegalArgumentException",
            "make(0, 3, 0) -> 1", "make(1, 4, 3) -> 2",
            "plain(3, 5, 0) -> IllegalArgumentException", "plain(4, 5, 0) -> IllegalArgumentException",
            "size(0) -> 2", "get(0, 0) -> UnsupportedOperationException", "get(0, 1) -> 0", "size(1) -> 3",
            "drop(0) -> true", "drop(1) -> true", "collect() -> 0",
            "plain(3, 5, 0) -> IllegalArgumentException", "plain(4, 5, 0) -> IllegalArgumentException",
            "make(0, 3, 0) -> 3", "size(0) -> 2", "make(1, 4, 3) -> 4", "size(1) -> 3", "collect() -> 15");
    }

    private static void kindIsARow(Run run) {
        run.rows(
            "row(3, 3) -> done", "make(0, 3, 7) -> 1", "size(0) -> 7", "make(1, 3, 2) -> 2", "size(1) -> 2",
            "get(0, 6) -> 0", "follow(0, 6, 9) -> UnsupportedOperationException",
            "row(4, 0) -> done", "make(0, 4, 7) -> 3", "size(0) -> 7",
            "get(0, 6) -> UnsupportedOperationException", "follow(0, 6, 9) -> false");
    }

    private static void elementsOutside(Run run) {
        run.rows(
            "row(0, -1) -> IllegalArgumentException",
            "row(0, 5) -> IllegalArgumentException",
            "row(0, 8) -> IllegalArgumentException",
            "row(0, -2147483648) -> IllegalArgumentException",
            "row(0, 2147483647) -> IllegalArgumentException",
            "make(0, 0, 0) -> IllegalStateException");
        for (int elements = 0; elements <= 4; elements++) {
            run.row("row(" + elements + ", " + elements + ")", "done");
            run.row("make(0, " + elements + ", 1)", elements + 1);
            run.row("size(0)", 1);
        }
    }

    private static void rowOverAKind(Run run) {
        run.rows(
            "row(3, 1) -> done", "plain(4, 3, 1) -> done",
            "row(3, 1) -> IllegalArgumentException", "row(3, 0) -> IllegalArgumentException",
            "row(4, 1) -> IllegalArgumentException",
            "make(0, 3, 8) -> 1", "make(1, 4, 8) -> 2",
            "row(3, 4) -> IllegalArgumentException", "row(4, 4) -> IllegalArgumentException",
            "size(0) -> 8", "put(0, 7, 255) -> done", "get(0, 7) -> -1", "size(1) -> 3",
            "drop(0) -> true", "drop(1) -> true", "collect() -> 0",
            "row(3, 4) -> IllegalArgumentException", "row(4, 4) -> IllegalArgumentException",
            "make(0, 3, 8) -> 3", "make(1, 4, 8) -> 4", "size(1) -> 3", "collect() -> 12");
    }
}
