/** Promises 12, 13 and 14: keep, number and size. */
public final class KeepNumberSizeTest {
    public static void main(String[] args) {
        Due due = new Due();
        due.says("Promise 12", "What SLOT s holds is kept for ever", KeepNumberSizeTest::keepsForEver);
        due.says("Promise 12", "What SLOT s holds is kept for ever", KeepNumberSizeTest::keepsWhatItNames);
        due.says("Promise 12", "how many are", KeepNumberSizeTest::countsWhatIsKept);
        due.says("Promise 12", "(one that is kept already counts again)", KeepNumberSizeTest::countsAgain);
        due.says("Promise 13", "1 for the first OBJECT that was asked for it, 2 for the second, and so on",
            KeepNumberSizeTest::numbersInTheOrderAsked);
        due.says("Promise 13", "1 for the first OBJECT that was asked for it, 2 for the second, and so on",
            KeepNumberSizeTest::noNumberTwice);
        due.says("Promise 13", "the same each time.", KeepNumberSizeTest::sameNumberEachTime);
        due.says("Promise 14", "How many WORDS or elements what SLOT s holds has.", KeepNumberSizeTest::sizes);
        due.end();
    }

    private static void keepsForEver(Run run) {
        run.rows(
            "plain(0, 1, 0) -> done", "make(0, 0, 0) -> 1", "make(1, 0, 0) -> 2", "make(2, 0, 0) -> 3",
            "keep(0) -> 1", "keep(2) -> 2",
            "drop(0) -> true", "drop(1) -> true", "drop(2) -> true", "collect() -> 8", "collect() -> 8",
            "memory(16) -> true", "make(0, 0, 0) -> 4", "make(1, 0, 0) -> 5",
            "make(2, 0, 0) -> UnsupportedOperationException", "make(0, 0, 0) -> UnsupportedOperationException",
            "drop(0) -> true", "drop(1) -> true", "collect() -> 8",
            "make(0, 0, 0) -> 6", "make(1, 0, 0) -> 7", "make(2, 0, 0) -> UnsupportedOperationException");
    }

    private static void keepsWhatItNames(Run run) {
        run.rows(
            "plain(0, 2, 3) -> done", "row(1, 3) -> done",
            "make(0, 0, 0) -> 1", "make(1, 0, 0) -> 2", "make(2, 1, 6) -> 3", "keep(0) -> 1",
            "link(0, 0, 1) -> false", "link(1, 1, 2) -> false", "copy(3, 0) -> true",
            "drop(0) -> true", "drop(1) -> true", "drop(2) -> true", "collect() -> 20",
            "follow(3, 0, 1) -> true", "link(1, 1, 9) -> true", "drop(1) -> true", "collect() -> 10",
            "link(3, 0, 9) -> true", "collect() -> 5", "drop(3) -> true", "collect() -> 5");
    }

    private static void countsWhatIsKept(Run run) {
        run.rows("plain(0, 1, 0) -> done");
        for (int s = 0; s <= 31; s++) {
            run.row("make(" + s + ", 0, 0)", s + 1);
            run.row("keep(" + s + ")", s + 1);
            run.row("drop(" + s + ")", true);
            run.row("collect()", 4 * (s + 1));
        }
        run.rows("keep(0) -> IllegalStateException", "make(0, 0, 0) -> 33", "keep(0) -> 33");
    }

    private static void countsAgain(Run run) {
        run.rows(
            "plain(0, 1, 0) -> done", "make(0, 0, 0) -> 1", "make(1, 0, 0) -> 2", "copy(2, 0) -> true",
            "keep(0) -> 1", "keep(0) -> 2", "keep(1) -> 3", "keep(2) -> 4", "keep(0) -> 5", "keep(1) -> 6",
            "collect() -> 8", "drop(0) -> true", "drop(2) -> true", "collect() -> 8",
            "drop(1) -> true", "collect() -> 8");
    }

    private static void numbersInTheOrderAsked(Run run) {
        run.rows(
            "plain(0, 1, 1) -> done",
            "make(0, 0, 0) -> 1", "make(1, 0, 0) -> 2", "make(2, 0, 0) -> 3", "make(31, 0, 0) -> 4",
            "number(2) -> 1", "number(0) -> 2", "number(5) -> IllegalStateException", "number(31) -> 3",
            "number(1) -> 4");
    }

    private static void noNumberTwice(Run run) {
        run.rows(
            "plain(0, 1, 1) -> done", "make(0, 0, 0) -> 1", "number(0) -> 1", "drop(0) -> true", "collect() -> 0",
            "make(0, 0, 0) -> 2", "number(0) -> 2", "make(0, 0, 0) -> 3", "collect() -> 4", "number(0) -> 3",
            "memory(16) -> true");
        for (int i = 4; i <= 20; i++) {
            run.row("make(0, 0, 0)", i).row("number(0)", i);
        }
    }

    private static void sameNumberEachTime(Run run) {
        run.rows(
            "plain(0, 1, 1) -> done", "memory(16) -> true", "make(0, 0, 0) -> 1", "make(1, 0, 0) -> 2",
            "number(1) -> 1", "number(1) -> 1", "number(0) -> 2", "number(1) -> 1",
            "copy(9, 0) -> true", "number(9) -> 2", "drop(0) -> true", "collect() -> 8", "number(9) -> 2",
            "link(9, 0, 1) -> false", "drop(1) -> true", "make(2, 0, 0) -> 3", "make(2, 0, 0) -> 4",
            "follow(9, 0, 3) -> true", "number(3) -> 1", "keep(3) -> 1", "number(3) -> 1", "number(2) -> 3");
    }

    private static void sizes(Run run) {
        run.rows(
            "plain(0, 0, 0) -> done", "plain(1, 1, 1) -> done", "plain(2, 16, 0xFF) -> done",
            "make(0, 0, 9) -> 1", "size(0) -> 0", "make(31, 1, 9) -> 2", "size(31) -> 1",
            "make(0, 2, 9) -> 3", "size(0) -> 16", "copy(1, 31) -> true", "size(1) -> 1");
        int[] lengths = {0, 1, 13, 32000};
        for (int elements = 0; elements <= 4; elements++) {
            run.row("row(" + (3 + elements) + ", " + elements + ")", "done");
            for (int i = 0; i < lengths.length; i++) {
                run.row("make(1, " + (3 + elements) + ", " + lengths[i] + ")", 4 + 4 * elements + i);
                run.row("size(1)", lengths[i]);
            }
            run.row("drop(1)", true);
        }
    }
}
