/** Promises 10 and 11: link and follow. */
public final class ReferencesTest {
    public static void main(String[] args) {
        Due due = new Due();
        due.says("Promise 10", "REFERENCE k of what SLOT s holds names what SLOT t holds", ReferencesTest::names);
        due.says("Promise 10", "REFERENCE k of what SLOT s holds names what SLOT t holds", ReferencesTest::namesItself);
        due.says("Promise 10", "REFERENCE k of what SLOT s holds names what SLOT t holds",
            ReferencesTest::namesFromARow);
        due.says("Promise 10", "or none, if that holds none", ReferencesTest::namesNone);
        due.says("Promise 10", "whether it named one before.", ReferencesTest::tellsWhetherItNamedOne);
        due.says("Promise 10", "IndexOutOfBoundsException: there is no WORD or element k.",
            run -> noPlaceOutside(run, "link"));
        due.says("Promise 10", "UnsupportedOperationException: it is no REFERENCE.",
            run -> onlyReferences(run, "link"));
        due.says("Promise 11", "SLOT t holds what REFERENCE k of what SLOT s holds names", ReferencesTest::follows);
        due.says("Promise 11", "SLOT t holds what REFERENCE k of what SLOT s holds names",
            ReferencesTest::followsARing);
        due.says("Promise 11", "or none", ReferencesTest::followsNone);
        due.says("Promise 11", "whether it is one.", ReferencesTest::tellsWhetherItIsOne);
        due.says("Promise 11", "Likewise.", run -> noPlaceOutside(run, "follow"));
        due.says("Promise 11", "Likewise.", run -> onlyReferences(run, "follow"));
        due.end();
    }

    /** Slots 0, 1 and 2 hold objects of two references and a word, which is 10, 11 and 12. */
    private static Run withThree(Run run) {
        return run.rows(
            "plain(0, 3, 3) -> done",
            "make(0, 0, 0) -> 1", "put(0, 2, 10) -> done",
            "make(1, 0, 0) -> 2", "put(1, 2, 11) -> done",
            "make(2, 0, 0) -> 3", "put(2, 2, 12) -> done");
    }

    private static void names(Run run) {
        withThree(run).rows(
            "link(0, 0, 1) -> false", "link(0, 1, 2) -> false", "link(0, 0, 2) -> true", "link(0, 0, 1) -> true",
            "drop(1) -> true", "drop(2) -> true", "collect() -> 18",
            "follow(0, 0, 31) -> true", "get(31, 2) -> 11", "follow(0, 1, 31) -> true", "get(31, 2) -> 12",
            "put(31, 2, 13) -> done", "follow(0, 1, 5) -> true", "same(5, 31) -> true", "get(5, 2) -> 13");
    }

    private static void namesItself(Run run) {
        withThree(run).rows(
            "link(0, 1, 0) -> false", "follow(0, 1, 5) -> true", "same(0, 5) -> true",
            "drop(0) -> true", "collect() -> 18", "drop(5) -> true", "collect() -> 12");
    }

    private static void namesFromARow(Run run) {
        run.rows("row(0, 0) -> done", "plain(1, 1, 0) -> done", "make(0, 0, 1000) -> 1");
        int[] places = {0, 1, 500, 998, 999};
        for (int i = 0; i < places.length; i++) {
            run.row("make(1, 1, 0)", i + 2);
            run.row("put(1, 0, " + places[i] + ")", "done");
            run.row("link(0, " + places[i] + ", 1)", false);
        }
        run.rows("drop(1) -> true", "collect() -> 1024");
        for (int k : places) {
            run.row("follow(0, " + k + ", 1)", true).row("get(1, 0)", k);
        }
        run.rows("follow(0, 2, 1) -> false", "follow(0, 499, 1) -> false", "follow(0, 997, 1) -> false");
    }

    private static void namesNone(Run run) {
        withThree(run).rows(
            "link(0, 0, 9) -> false", "follow(0, 0, 8) -> false",
            "link(0, 0, 1) -> false", "drop(1) -> true", "collect() -> 18",
            "link(0, 0, 9) -> true", "collect() -> 12", "follow(0, 0, 2) -> false", "size(2) -> IllegalStateException");
    }

    private static void tellsWhetherItNamedOne(Run run) {
        withThree(run).rows(
            "link(0, 0, 1) -> false", "link(0, 1, 1) -> false", "link(1, 0, 1) -> false",
            "link(0, 0, 1) -> true", "link(0, 0, 2) -> true", "link(0, 0, 9) -> true",
            "link(0, 0, 9) -> false", "link(0, 0, 2) -> false", "link(0, 0, 0) -> true", "link(0, 0, 0) -> true");
    }

    private static void follows(Run run) {
        withThree(run).rows(
            "link(0, 0, 1) -> false", "link(0, 1, 2) -> false",
            "follow(0, 0, 31) -> true", "same(31, 1) -> true",
            "follow(0, 0, 2) -> true", "same(2, 1) -> true", "get(2, 2) -> 11",
            "follow(0, 1, 1) -> true", "get(1, 2) -> 12", "get(0, 2) -> 10");
    }

    private static void followsARing(Run run) {
        withThree(run).rows(
            "link(0, 0, 1) -> false", "link(1, 0, 2) -> false", "link(2, 0, 0) -> false",
            "drop(1) -> true", "drop(2) -> true");
        for (int step = 1; step <= 7; step++) {
            run.row("follow(0, 0, 0)", true);
            run.row("get(0, 2)", 10 + step % 3);
            run.row("collect()", 18);
        }
        run.rows("drop(0) -> true", "collect() -> 0");
    }

    private static void followsNone(Run run) {
        withThree(run).rows(
            "follow(0, 0, 1) -> false", "size(1) -> IllegalStateException",
            "follow(2, 1, 5) -> false", "size(5) -> IllegalStateException",
            "follow(0, 1, 0) -> false", "size(0) -> IllegalStateException", "collect() -> 6");
    }

    private static void tellsWhetherItIsOne(Run run) {
        withThree(run).rows(
            "follow(0, 0, 5) -> false", "link(0, 0, 1) -> false", "follow(0, 0, 5) -> true", "follow(0, 1, 5) -> false",
            "link(0, 0, 9) -> true", "follow(0, 0, 5) -> false");
    }

    private static void noPlaceOutside(Run run, String name) {
        run.rows(
            "plain(0, 0, 0) -> done", "plain(1, 1, 1) -> done", "plain(2, 16, 0xFFFF) -> done", "row(3, 0) -> done",
            "make(0, 0, 0) -> 1", "make(1, 1, 0) -> 2", "make(2, 2, 0) -> 3", "make(3, 3, 0) -> 4",
            "make(4, 3, 6) -> 5", "make(5, 3, 60000) -> 6");
        int[] sizes = {0, 1, 16, 0, 6, 60000};
        for (int s = 0; s < sizes.length; s++) {
            String start = name + "(" + s + ", ";
            int size = sizes[s];
            for (int k : new int[] {-1, -60000, Integer.MIN_VALUE, size, size + 1, size + 32, Integer.MAX_VALUE}) {
                run.row(start + k + ", 7)", "IndexOutOfBoundsException");
            }
            if (size > 0) {
                run.row(start + "0, 7)", false);
                run.row(start + (size - 1) + ", 7)", false);
            }
        }
    }

    private static void onlyReferences(Run run, String name) {
        run.rows("plain(0, 16, 0x7FFE) -> done", "make(0, 0, 0) -> 1");
        run.each("UnsupportedOperationException", name + "(0, 0, 7)", name + "(0, 15, 0)");
        run.each("false", name + "(0, 1, 7)", name + "(0, 14, 7)");
        for (int elements = 1; elements <= 4; elements++) {
            run.row("row(" + elements + ", " + elements + ")", "done");
            run.row("make(1, " + elements + ", 3)", elements + 1);
            run.row("put(1, 2, 5)", "done");
            run.row(name + "(1, 0, 0)", "UnsupportedOperationException");
            run.row(name + "(1, 2, 7)", "UnsupportedOperationException");
            run.row("get(1, 2)", 5);
        }
    }
}
