/** Promises 15, 16 and 17: memory, every and collect. */
public final class MemoryTest {
    private static final int[] TURNS = {0, 1, 2, 3, 4, 7, 64, Integer.MAX_VALUE};

    public static void main(String[] args) {
        Due due = new Due();
        due.says("Promise 15", "MEMORY has so many words", MemoryTest::hasSoManyWords);
        due.says("Promise 15", "whether it can (all that are REACHABLE fit", MemoryTest::whatIsReachableFits);
        due.says("Promise 15", "whether it can (all that are REACHABLE fit", MemoryTest::whatIsNotReachableNeedNotFit);
        due.says("Promise 15", "else it stays as it is)", MemoryTest::staysAsItIs);
        due.says("Promise 15", "IllegalArgumentException: not 16..65536.", MemoryTest::wordsOutside);
        due.says("Promise 16", "What is not REACHABLE is gone before each n-th OBJECT is made",
            MemoryTest::onlyWhatIsNotReachableIsGone);
        due.says("Promise 16", "(0: when there is no room)", MemoryTest::goneWhenThereIsNoRoom);
        due.says("Promise 16", "nothing that a call tells hangs on it.", MemoryTest::nothingHangsOnEvery);
        due.says("Promise 16", "IllegalArgumentException: n is below 0.", MemoryTest::everyBelowNone);
        due.says("Promise 17", "What is not REACHABLE is gone", MemoryTest::collectLeavesTheReachable);
        due.says("Promise 17", "how many words the rest (all that are REACHABLE) takes.",
            MemoryTest::collectCountsEachOnce);
        due.says("Promise 17", "how many words the rest (all that are REACHABLE) takes.",
            MemoryTest::collectCountsEverySlot);
        due.end();
    }

    private static void hasSoManyWords(Run run) {
        run.rows("row(0, 3) -> done");
        int made = 0;
        for (int words : new int[] {16, 17, 40, 1000, 65535, 65536}) {
            run.row("memory(" + words + ")", true);
            run.row("make(0, 0, " + (words - 3) + ")", "UnsupportedOperationException");
            run.row("make(0, 0, " + (words - 4) + ")", ++made);
            run.row("collect()", words);
            run.row("drop(0)", true);
        }
        run.rows("memory(16) -> true", "make(0, 0, 13) -> UnsupportedOperationException", "make(0, 0, 12) -> 7");
    }

    private static void whatIsReachableFits(Run run) {
        run.rows(
            "row(0, 3) -> done", "plain(1, 1, 1) -> done", "make(0, 0, 20) -> 1", "make(1, 0, 20) -> 2",
            "memory(47) -> false", "memory(48) -> true", "memory(48) -> true",
            "drop(1) -> true", "memory(23) -> false", "memory(24) -> true",
            "memory(28) -> true", "make(1, 1, 0) -> 3", "link(1, 0, 0) -> false", "drop(0) -> true",
            "memory(27) -> false", "memory(28) -> true",
            "keep(1) -> 1", "drop(1) -> true", "memory(27) -> false", "memory(28) -> true",
            "memory(16) -> false", "memory(65536) -> true", "memory(65535) -> true");
        run.anew().rows(
            "row(0, 3) -> done", "make(0, 0, 65532) -> 1", "memory(65535) -> false", "memory(65536) -> true",
            "memory(16) -> false", "drop(0) -> true", "memory(16) -> true");
        run.anew().rows(
            "row(0, 3) -> done", "make(0, 0, 13) -> 1", "memory(16) -> false", "make(0, 0, 12) -> 2",
            "memory(16) -> true");
    }

    private static void whatIsNotReachableNeedNotFit(Run run) {
        run.rows(
            "row(0, 0) -> done", "make(0, 0, 100) -> 1", "link(0, 0, 0) -> false", "make(0, 0, 60) -> 2",
            "make(0, 0, 12) -> 3", "memory(16) -> true", "make(1, 0, 0) -> UnsupportedOperationException",
            "drop(0) -> true", "make(1, 0, 12) -> 4", "collect() -> 16");
    }

    private static void staysAsItIs(Run run) {
        run.rows(
            "row(0, 3) -> done", "memory(40) -> true", "make(0, 0, 26) -> 1", "put(0, 25, 9) -> done",
            "memory(29) -> false", "memory(16) -> false", "make(1, 0, 7) -> UnsupportedOperationException",
            "make(1, 0, 6) -> 2", "get(0, 25) -> 9", "memory(39) -> false", "collect() -> 40",
            "memory(15) -> IllegalArgumentException", "make(2, 0, 0) -> UnsupportedOperationException",
            "drop(1) -> true", "make(1, 0, 7) -> UnsupportedOperationException", "make(1, 0, 6) -> 3");
    }

    private static void wordsOutside(Run run) {
        run.rows(
            "row(0, 3) -> done", "memory(100) -> true", "make(0, 0, 10) -> 1",
            "memory(15) -> IllegalArgumentException", "memory(0) -> IllegalArgumentException",
            "memory(-1) -> IllegalArgumentException", "memory(-16) -> IllegalArgumentException",
            "memory(-2147483648) -> IllegalArgumentException",
            "memory(65537) -> IllegalArgumentException", "memory(131072) -> IllegalArgumentException",
            "memory(2147483647) -> IllegalArgumentException",
            "make(1, 0, 83) -> UnsupportedOperationException", "make(1, 0, 82) -> 2",
            "drop(1) -> true", "memory(16) -> true", "memory(65536) -> true");
    }

    /** With room for all, so that nothing but every makes anything go. */
    private static void onlyWhatIsNotReachableIsGone(Run first) {
        for (int n : TURNS) {
            Run run = first.anew().row("plain(0, 2, 1)", "done").row("every(" + n + ")", "done");
            run.rows(
                "make(0, 0, 0) -> 1", "put(0, 1, 100) -> done", "keep(0) -> 1",
                "make(1, 0, 0) -> 2", "put(1, 1, 101) -> done", "link(0, 0, 1) -> false", "drop(1) -> true",
                "make(2, 0, 0) -> 3", "put(2, 1, 102) -> done", "copy(3, 0) -> true", "drop(0) -> true");
            for (int made = 4; made <= 20; made++) {
                run.row("make(1, 0, 0)", made).row("get(1, 1)", 0).row("put(1, 1, 7)", "done");
                run.rows(
                    "get(2, 1) -> 102", "get(3, 1) -> 100", "follow(3, 0, 4) -> true", "get(4, 1) -> 101",
                    "drop(4) -> true");
            }
            run.rows("collect() -> 20", "drop(3) -> true", "collect() -> 20");
        }
    }

    private static void goneWhenThereIsNoRoom(Run first) {
        for (int n : TURNS) {
            Run run = first.anew().rows("plain(0, 2, 1) -> done", "memory(16) -> true");
            run.row("every(" + n + ")", "done").row("every(0)", "done");
            run.rows("make(0, 0, 0) -> 1", "put(0, 1, 11) -> done");
            for (int made = 2; made <= 30; made++) {
                run.row("make(1, 0, 0)", made);
            }
            run.rows(
                "make(2, 0, 0) -> 31", "make(3, 0, 0) -> UnsupportedOperationException",
                "drop(2) -> true", "make(3, 0, 0) -> 32", "get(0, 1) -> 11", "collect() -> 15");
        }
    }

    private static void nothingHangsOnEvery(Run first) {
        for (int n : TURNS) {
            Run run = first.anew().rows("plain(0, 2, 1) -> done", "memory(20) -> true");
            run.row("every(" + n + ")", "done");
            for (int i = 1; i <= 60; i++) {
                run.row("make(1, 0, 0)", i);
                run.row("put(1, 1, " + i + ")", "done");
                run.row("link(1, 0, 0)", false);
                if (i % 2 == 0) {
                    run.row("get(0, 1)", i - 1).row("drop(0)", true);
                } else {
                    run.row("copy(0, 1)", true);
                }
                if (i % 20 == 0) {
                    run.row("every(" + i / 20 + ")", "done");
                }
            }
            run.rows(
                "get(1, 1) -> 60", "number(1) -> 1", "collect() -> 10", "memory(16) -> true", "memory(20) -> true",
                "copy(0, 1) -> true", "make(1, 0, 0) -> 61", "make(2, 0, 0) -> 62",
                "make(3, 0, 0) -> UnsupportedOperationException", "number(2) -> 2");
        }
    }

    private static void everyBelowNone(Run run) {
        run.rows(
            "every(-1) -> IllegalArgumentException", "every(-2147483648) -> IllegalArgumentException",
            "every(0) -> done", "every(1) -> done", "every(2147483647) -> done",
            "every(-1) -> IllegalArgumentException");
    }

    private static void collectLeavesTheReachable(Run run) {
        run.rows(
            "plain(0, 2, 1) -> done", "row(1, 0) -> done", "make(0, 0, 0) -> 1", "put(0, 1, 5) -> done",
            "make(1, 1, 4) -> 2", "link(1, 3, 0) -> false", "make(2, 0, 0) -> 3", "put(2, 1, 6) -> done",
            "link(2, 0, 2) -> false", "drop(0) -> true", "drop(2) -> true", "collect() -> 13",
            "follow(1, 3, 0) -> true", "get(0, 1) -> 5", "follow(0, 0, 3) -> false",
            "drop(0) -> true", "drop(1) -> true", "collect() -> 0", "collect() -> 0",
            "make(0, 0, 0) -> 4", "collect() -> 5");
    }

    private static void collectCountsEachOnce(Run run) {
        run.rows(
            "collect() -> 0",
            "plain(0, 2, 3) -> done", "row(1, 0) -> done", "collect() -> 0",
            "make(0, 0, 0) -> 1", "make(1, 1, 3) -> 2", "copy(2, 0) -> true", "keep(0) -> 1", "keep(0) -> 2",
            "link(0, 0, 1) -> false", "link(0, 1, 1) -> false", "link(1, 0, 0) -> false", "link(1, 1, 1) -> false",
            "link(1, 2, 0) -> false", "collect() -> 12",
            "drop(0) -> true", "drop(1) -> true", "drop(2) -> true", "collect() -> 12",
            "make(0, 0, 0) -> 3", "collect() -> 17", "make(0, 0, 0) -> 4", "collect() -> 17", "collect() -> 17");
    }

    private static void collectCountsEverySlot(Run run) {
        run.rows("plain(0, 1, 0) -> done");
        for (int s = 0; s <= 31; s++) {
            run.row("make(" + s + ", 0, 0)", s + 1).row("collect()", 4 * (s + 1));
        }
        for (int s = 0; s <= 31; s++) {
            run.row("drop(" + s + ")", true).row("collect()", 4 * (31 - s));
        }
    }
}
