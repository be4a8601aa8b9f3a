/** Calls that throw, on a desk that is much used: the section "Terms". */
public final class RefusedTest {
    private static final String NOTHING = "A call that throws changes nothing";

    public static void main(String[] args) {
        Due due = new Due();
        due.says("Terms", NOTHING, RefusedTest::kindsStay);
        due.says("Terms", NOTHING, RefusedTest::slotsStay);
        due.says("Terms", NOTHING, RefusedTest::placesStay);
        due.says("Terms", NOTHING, RefusedTest::referencesStay);
        due.says("Terms", NOTHING, RefusedTest::countsStay);
        due.says("Terms", NOTHING, RefusedTest::memoryStays);
        due.says("Terms", NOTHING, RefusedTest::everySlotStays);
        due.says("Terms", NOTHING, RefusedTest::everyKindStays);
        due.says("Terms", "but that what is not REACHABLE may be gone.", RefusedTest::onlyTheUnreachableGoes);
        due.end();
    }

    /**
     * Each kind of element and a plain one, with something in them; one that is only kept, one that is
     * only named, one that is gone; 55 words reachable of 69.
     */
    private static Run used(Run run) {
        return run.rows(
            "plain(0, 4, 3) -> done", "row(1, 0) -> done", "row(2, 1) -> done", "row(3, 2) -> done",
            "row(4, 3) -> done", "row(5, 4) -> done", "every(3) -> done",
            "make(0, 0, 0) -> 1", "make(1, 1, 3) -> 2", "make(2, 2, 5) -> 3", "make(3, 3, 3) -> 4",
            "make(4, 4, 2) -> 5", "make(5, 5, 2) -> 6", "make(6, 0, 0) -> 7", "make(7, 4, 4) -> 8",
            "make(8, 4, 20) -> 9", "drop(8) -> true",
            "put(0, 3, -4) -> done", "put(2, 4, 100) -> done", "put(3, 2, 50000) -> done", "put(4, 1, -5) -> done",
            "put(5, 1, 9223372036854775807) -> done",
            "number(3) -> 1", "number(6) -> 2",
            "keep(7) -> 1", "drop(7) -> true", "keep(1) -> 2", "keep(1) -> 3",
            "link(0, 0, 6) -> false", "link(0, 1, 0) -> false", "link(1, 2, 2) -> false", "drop(6) -> true",
            "memory(69) -> true", "collect() -> 55");
    }

    /** What the desk must still tell, whatever was refused. */
    private static void tellsAllAsBefore(Run run) {
        run.rows(
            "size(0) -> 4", "size(1) -> 3", "size(2) -> 5", "size(3) -> 3", "size(4) -> 2", "size(5) -> 2",
            "size(6) -> IllegalStateException", "size(7) -> IllegalStateException", "size(9) -> IllegalStateException",
            "get(0, 2) -> 0", "get(0, 3) -> -4", "get(2, 4) -> 100", "get(2, 0) -> 0", "get(3, 2) -> 50000",
            "get(4, 1) -> -5", "get(5, 1) -> 9223372036854775807", "get(5, 0) -> 0",
            "follow(0, 0, 9) -> true", "number(9) -> 2", "follow(0, 1, 9) -> true", "same(0, 9) -> true",
            "follow(1, 0, 9) -> false", "follow(1, 1, 9) -> false", "follow(1, 2, 9) -> true", "same(9, 2) -> true",
            "drop(9) -> true", "number(3) -> 1", "number(0) -> 3", "keep(0) -> 4", "collect() -> 55",
            "make(9, 4, 11) -> UnsupportedOperationException", "make(9, 4, 10) -> 10", "collect() -> 69");
    }

    private static void kindsStay(Run run) {
        used(run);
        run.each("IllegalArgumentException",
            "plain(-1, 1, 0)", "plain(16, 1, 0)", "plain(6, -1, 0)", "plain(6, 17, 0)", "plain(6, 2, 4)",
            "plain(0, 4, 3)", "plain(0, 16, 0)", "plain(2, 2, 1)",
            "row(-1, 1)", "row(16, 1)", "row(6, -1)", "row(6, 5)", "row(0, 4)", "row(2, 1)", "row(2, 4)");
        run.row("make(9, 6, 0)", "IllegalStateException");
        tellsAllAsBefore(run);
        run.rows("plain(6, 1, 0) -> done", "drop(9) -> true", "make(9, 6, 0) -> 11", "size(9) -> 1");
    }

    private static void slotsStay(Run run) {
        used(run);
        run.each("IllegalArgumentException",
            "make(-1, 0, 0)", "make(32, 0, 0)", "make(0, -1, 0)", "make(0, 16, 0)", "make(0, 2, -1)", "make(9, 2, -1)",
            "copy(-1, 0)", "copy(0, -1)", "copy(0, 32)", "copy(32, 0)", "drop(-1)", "drop(32)", "same(0, 32)",
            "same(-1, 0)", "follow(0, 0, 32)", "follow(32, 0, 0)");
        run.each("IllegalStateException", "make(0, 6, 0)", "make(9, 6, -1)", "follow(9, 0, 0)", "follow(9, 0, 9)");
        run.each("UnsupportedOperationException",
            "make(0, 4, 11)", "make(9, 4, 11)", "make(9, 4, 2147483647)", "follow(0, 2, 1)", "follow(2, 0, 1)");
        run.each("IndexOutOfBoundsException", "follow(0, 4, 1)", "follow(1, 3, 1)", "follow(1, -1, 1)",
            "follow(2, 5, 1)");
        tellsAllAsBefore(run);
    }

    private static void placesStay(Run run) {
        used(run);
        run.each("IllegalArgumentException", "put(-1, 3, 9)", "put(32, 3, 9)", "get(-1, 3)", "get(32, 3)");
        run.each("IllegalStateException", "put(9, 3, 9)", "get(9, 3)");
        run.each("IndexOutOfBoundsException",
            "put(0, 4, 9)", "put(0, -1, 9)", "put(1, 3, 9)", "put(2, 5, 9)", "put(2, 8, 9)", "put(3, 3, 9)",
            "put(4, 2, 9)", "put(5, 2, 9)", "put(5, -1, 9)", "get(0, 4)", "get(1, 3)", "get(5, 2)", "get(2, 5)");
        run.each("UnsupportedOperationException",
            "put(0, 0, 9)", "put(0, 1, 0)", "put(1, 0, 9)", "put(1, 2, 0)", "get(0, 0)", "get(1, 2)");
        tellsAllAsBefore(run);
    }

    private static void referencesStay(Run run) {
        used(run);
        run.each("IllegalArgumentException",
            "link(-1, 0, 2)", "link(32, 0, 2)", "link(0, 0, -1)", "link(0, 0, 32)", "link(1, 2, 32)");
        run.each("IllegalStateException", "link(9, 0, 2)", "link(9, 0, 9)");
        run.each("IndexOutOfBoundsException",
            "link(0, 4, 2)", "link(0, -1, 2)", "link(0, 32, 2)", "link(1, 3, 2)", "link(1, -1, 9)", "link(2, 5, 2)");
        run.each("UnsupportedOperationException",
            "link(0, 2, 2)", "link(0, 3, 9)", "link(2, 0, 0)", "link(3, 2, 0)", "link(4, 1, 9)", "link(5, 1, 0)");
        tellsAllAsBefore(run);
    }

    private static void countsStay(Run run) {
        used(run);
        run.each("IllegalArgumentException",
            "keep(-1)", "keep(32)", "number(-1)", "number(32)", "size(-1)", "size(32)", "every(-1)");
        run.each("IllegalStateException", "keep(9)", "keep(31)", "number(9)", "number(31)", "size(9)", "make(9, 6, 0)");
        run.each("UnsupportedOperationException", "make(9, 4, 11)", "make(0, 5, 6)");
        tellsAllAsBefore(run);
    }

    private static void memoryStays(Run run) {
        used(run);
        run.each("IllegalArgumentException",
            "memory(15)", "memory(0)", "memory(-1)", "memory(65537)", "memory(2147483647)", "memory(-2147483648)");
        run.row("memory(54)", false);
        tellsAllAsBefore(run);
    }

    /**
     * All 16 kinds, each with two references of its own among 16 words; all 32 slots hold one, with a
     * number in it, that names the next; they take all words.
     */
    private static Run full(Run run) {
        for (int k = 0; k <= 15; k++) {
            run.row("plain(" + k + ", 16, " + (1 << k | 1 << 15 - k) + ")", "done");
        }
        for (int s = 0; s <= 31; s++) {
            run.row("make(" + s + ", " + s % 16 + ", 0)", s + 1);
            run.row("put(" + s + ", " + (s + 2) % 16 + ", " + (s + 100) + ")", "done");
        }
        for (int s = 0; s <= 31; s++) {
            run.row("link(" + s + ", " + s % 16 + ", " + (s + 1) % 32 + ")", false);
        }
        return run.row("memory(607)", false).row("memory(608)", true);
    }

    private static void everySlotStays(Run run) {
        full(run);
        run.each("IllegalArgumentException",
            "make(32, 0, 0)", "make(0, 16, 0)", "copy(9, 32)", "copy(-1, 9)", "drop(32)", "same(9, 32)", "get(32, 0)",
            "put(-1, 0, 9)", "link(9, 9, 32)", "follow(9, 9, 32)", "keep(32)", "number(-1)", "size(32)",
            "memory(15)", "memory(65537)", "every(-1)");
        run.each("IndexOutOfBoundsException", "get(5, 16)", "put(31, 16, 9)", "link(9, -1, 3)", "follow(20, 16, 7)");
        run.each("UnsupportedOperationException",
            "make(0, 0, 0)", "make(20, 4, 0)", "make(31, 15, 0)", "get(15, 0)", "put(31, 15, 9)", "link(20, 6, 3)",
            "follow(9, 11, 31)");
        run.rows("drop(17) -> true", "link(16, 0, 17) -> true", "collect() -> 589");
        run.each("IllegalStateException",
            "get(17, 0)", "put(17, 3, 9)", "link(17, 1, 31)", "follow(17, 1, 31)", "keep(17)", "number(17)",
            "size(17)");
    }

    private static void everyKindStays(Run run) {
        full(run);
        for (int k = 0; k <= 15; k++) {
            run.row("plain(" + k + ", 16, 0)", "IllegalArgumentException");
            run.row("row(" + k + ", 0)", "IllegalArgumentException");
        }
        run.each("IllegalArgumentException",
            "plain(16, 16, 0)", "plain(-1, 16, 0)", "plain(3, 17, 0)", "plain(15, 16, 65536)", "row(16, 4)",
            "row(-1, 4)", "row(8, 5)");
    }

    /** A make that throws may look for room first: what it then lets go must be out of reach. */
    private static void onlyTheUnreachableGoes(Run run) {
        run.rows(
            "plain(0, 2, 1) -> done", "memory(20) -> true", "make(0, 0, 0) -> 1", "put(0, 1, 1) -> done",
            "make(1, 0, 0) -> 2", "put(1, 1, 2) -> done", "link(0, 0, 1) -> false", "make(1, 0, 0) -> 3",
            "put(1, 1, 3) -> done", "keep(1) -> 1", "copy(2, 1) -> true", "make(1, 0, 0) -> 4", "drop(1) -> true");
        run.row("row(1, 3)", "done").row("make(1, 1, 2)", "UnsupportedOperationException");
        run.rows(
            "get(0, 1) -> 1", "follow(0, 0, 5) -> true", "get(5, 1) -> 2", "get(2, 1) -> 3", "drop(2) -> true",
            "make(1, 1, 2) -> UnsupportedOperationException", "collect() -> 15", "make(1, 1, 1) -> 5");
    }
}
