/** Promise 4: make. */
public final class MakeTest {
    private static final String NO_ROOM = "UnsupportedOperationException";

    public static void main(String[] args) {
        Due due = new Due();
        due.says("Promise 4", "SLOT s holds a new OBJECT of KIND k", MakeTest::slotHoldsANewOne);
        due.says("Promise 4", "(a ROW of n; n is not looked at else)", MakeTest::rowOfN);
        due.says("Promise 4", "(a ROW of n; n is not looked at else)", MakeTest::plainWithAnyN);
        due.says("Promise 4", "how many were made so far.", MakeTest::countsWhatWasMade);
        due.says("Promise 4", "IllegalArgumentException: n is below 0, for a ROW", MakeTest::rowBelowNone);
        due.says("Promise 4", "(a KIND that is not defined is no ROW: IllegalStateException)", MakeTest::noKindIsNoRow);
        due.says("Promise 4", "UnsupportedOperationException: there is no room", MakeTest::plainNeedsRoom);
        due.says("Promise 4", "UnsupportedOperationException: there is no room", MakeTest::rowNeedsRoom);
        due.says("Promise 4", "UnsupportedOperationException: there is no room", MakeTest::longestRows);
        due.says("Promise 4", "UnsupportedOperationException: there is no room", MakeTest::rowsWhoseWordsWrapAround);
        due.says("Promise 4", "(what s held counts still)", MakeTest::whatTheSlotHeldCountsStill);
        due.says("Promise 4", "(what s held counts still)", MakeTest::whatItNamesCountsStill);
        due.end();
    }

    private static void slotHoldsANewOne(Run run) {
        run.rows(
            "plain(0, 2, 0) -> done", "row(1, 1) -> done",
            "make(0, 0, 0) -> 1", "size(0) -> 2", "make(31, 1, 5) -> 2", "size(31) -> 5",
            "put(0, 0, 7) -> done", "copy(1, 0) -> true", "number(0) -> 1",
            "make(0, 0, 0) -> 3", "same(0, 1) -> false", "get(0, 0) -> 0", "get(1, 0) -> 7", "number(0) -> 2",
            "make(0, 1, 3) -> 4", "size(0) -> 3", "get(1, 0) -> 7", "collect() -> 16");
    }

    private static void rowOfN(Run run) {
        for (int elements = 0; elements <= 4; elements++) {
            run.row("row(" + elements + ", " + elements + ")", "done");
            for (int n = 0; n <= 9; n++) {
                run.row("make(0, " + elements + ", " + n + ")", elements * 10 + n + 1);
                run.row("size(0)", n);
            }
        }
    }

    private static void plainWithAnyN(Run run) {
        run.rows(
            "plain(0, 3, 0) -> done",
            "make(0, 0, 0) -> 1", "make(1, 0, -1) -> 2", "make(2, 0, -2147483648) -> 3",
            "make(3, 0, 2147483647) -> 4", "make(4, 0, 17) -> 5", "make(5, 0, 2) -> 6",
            "size(1) -> 3", "size(2) -> 3", "size(3) -> 3", "size(4) -> 3", "size(5) -> 3", "collect() -> 36");
    }

    private static void countsWhatWasMade(Run run) {
        run.rows(
            "plain(0, 1, 0) -> done", "row(1, 3) -> done", "memory(16) -> true",
            "make(0, 0, 0) -> 1", "make(0, 0, 0) -> 2", "make(1, 1, 1) -> 3",
            "make(2, 1, 9) -> UnsupportedOperationException",
            "make(2, 1, -1) -> IllegalArgumentException",
            "make(2, 2, 0) -> IllegalStateException",
            "make(2, 0, 0) -> 4",
            "drop(0) -> true", "drop(1) -> true", "drop(2) -> true", "collect() -> 0", "make(0, 0, 0) -> 5");
    }

    private static void rowBelowNone(Run run) {
        for (int elements = 0; elements <= 4; elements++) {
            run.row("row(" + elements + ", " + elements + ")", "done");
            run.row("make(0, " + elements + ", -1)", "IllegalArgumentException");
            run.row("make(0, " + elements + ", -65536)", "IllegalArgumentException");
            run.row("make(0, " + elements + ", -2147483648)", "IllegalArgumentException");
            run.row("make(0, " + elements + ", 0)", elements + 1);
            run.row("size(0)", 0);
            run.row("make(0, " + elements + ", -1)", "IllegalArgumentException");
        }
    }

    private static void noKindIsNoRow(Run run) {
        run.rows(
            "make(0, 3, -1) -> IllegalStateException",
            "make(0, 3, -2147483648) -> IllegalStateException",
            "make(0, 3, 0) -> IllegalStateException",
            "make(0, 3, 2147483647) -> IllegalStateException",
            "row(3, 1) -> done",
            "make(0, 3, -1) -> IllegalArgumentException",
            "make(0, 4, -1) -> IllegalStateException",
            "plain(4, 1, 0) -> done",
            "make(0, 4, -1) -> 1");
    }

    private static void plainNeedsRoom(Run run) {
        run.rows(
            "plain(0, 13, 0) -> done", "plain(1, 14, 0) -> done", "plain(2, 0, 0) -> done", "memory(16) -> true",
            "make(0, 1, 0) -> UnsupportedOperationException",
            "make(0, 0, 0) -> 1", "collect() -> 16",
            "make(1, 2, 0) -> UnsupportedOperationException",
            "memory(18) -> true", "make(1, 2, 0) -> UnsupportedOperationException",
            "memory(19) -> true", "make(1, 2, 0) -> 2", "collect() -> 19");
    }

    private static void rowNeedsRoom(Run run) {
        run.rows(
            "row(1, 1) -> done", "row(2, 2) -> done", "row(4, 4) -> done", "memory(16) -> true",
            "make(0, 1, 49) -> UnsupportedOperationException", "make(0, 1, 48) -> 1", "drop(0) -> true",
            "make(0, 2, 25) -> UnsupportedOperationException", "make(0, 2, 24) -> 2", "drop(0) -> true",
            "make(0, 4, 7) -> UnsupportedOperationException", "make(0, 4, 6) -> 3", "collect() -> 16",
            "make(1, 1, 0) -> UnsupportedOperationException",
            "memory(19) -> true", "make(1, 1, 0) -> UnsupportedOperationException",
            "memory(20) -> true", "make(1, 1, 1) -> UnsupportedOperationException", "make(1, 1, 0) -> 4",
            "collect() -> 20");
    }

    private static void longestRows(Run first) {
        int[] longest = {65532, 4 * 65532, 2 * 65532, 65532, 32766};
        for (int elements = 0; elements <= 4; elements++) {
            int n = longest[elements];
            first.anew()
                .row("row(0, " + elements + ")", "done")
                .row("make(0, 0, " + (n + 1) + ")", NO_ROOM)
                .row("make(0, 0, " + n + ")", 1)
                .row("size(0)", n)
                .row("collect()", 65536);
        }
    }

    /** Lengths whose words or bits, counted in an int, come out small or below 0. */
    private static void rowsWhoseWordsWrapAround(Run first) {
        for (int elements = 0; elements <= 4; elements++) {
            Run run = first.anew().row("row(0, " + elements + ")", "done");
            for (int bit = 24; bit <= 30; bit++) {
                run.row("make(0, 0, " + (1 << bit) + ")", NO_ROOM);
                run.row("make(0, 0, " + ((1 << bit) - 2) + ")", NO_ROOM);
                run.row("make(0, 0, " + ((1 << bit) + 1) + ")", NO_ROOM);
            }
            for (int less = 0; less <= 8; less++) {
                run.row("make(0, 0, " + (Integer.MAX_VALUE - less) + ")", NO_ROOM);
            }
            run.row("make(0, 0, 1)", 1);
            run.row("make(0, 0, 2147483647)", NO_ROOM);
        }
    }

    private static void whatTheSlotHeldCountsStill(Run run) {
        run.rows(
            "plain(0, 7, 0) -> done", "memory(19) -> true",
            "make(0, 0, 0) -> 1", "make(0, 0, 0) -> UnsupportedOperationException",
            "memory(20) -> true", "make(0, 0, 0) -> 2", "make(0, 0, 0) -> 3", "collect() -> 10",
            "memory(19) -> true", "make(0, 0, 0) -> UnsupportedOperationException",
            "drop(0) -> true", "make(0, 0, 0) -> 4");
    }

    private static void whatItNamesCountsStill(Run run) {
        run.rows(
            "plain(0, 2, 1) -> done", "memory(16) -> true",
            "make(0, 0, 0) -> 1", "make(1, 0, 0) -> 2", "link(0, 0, 1) -> false", "drop(1) -> true",
            "make(0, 0, 0) -> 3", "make(1, 0, 0) -> 4", "link(0, 0, 1) -> false", "drop(1) -> true",
            "make(1, 0, 0) -> 5", "make(0, 0, 0) -> UnsupportedOperationException",
            "drop(1) -> true", "make(0, 0, 0) -> 6", "collect() -> 5");
    }
}
