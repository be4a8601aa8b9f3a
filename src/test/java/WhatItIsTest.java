/** The section "What it is". */
public final class WhatItIsTest {
    private static final String CALLS = "An object is used for at most 512 calls after it has been made";

    public static void main(String[] args) {
        Due due = new Due();
        due.says("What it is", "what can be come to from the slots is kept", WhatItIsTest::comeToIsKept);
        due.says("What it is", "the rest is gone when room is needed", WhatItIsTest::restIsGone);
        due.says("What it is", "and what is kept moves; nothing that is told shows where it lies.",
            WhatItIsTest::nothingShowsWhereItLies);
        due.says("What it is", CALLS, WhatItIsTest::mostMade);
        due.says("What it is", CALLS, WhatItIsTest::mostMadeInTheLeastRoom);
        due.says("What it is", CALLS, WhatItIsTest::longestChain);
        due.says("What it is", CALLS, WhatItIsTest::mostReferences);
        due.says("What it is", CALLS, WhatItIsTest::mostElements);
        due.says("What it is", CALLS, WhatItIsTest::mostKept);
        due.says("What it is", CALLS, WhatItIsTest::mostNumbers);
        due.end();
    }

    private static void comeToIsKept(Run run) {
        run.rows(
            "plain(0, 3, 3) -> done", "memory(18) -> true",
            "make(0, 0, 0) -> 1", "make(1, 0, 0) -> 2", "make(2, 0, 0) -> 3",
            "put(1, 2, 21) -> done", "put(2, 2, 22) -> done",
            "link(0, 1, 1) -> false", "link(1, 0, 2) -> false", "drop(1) -> true", "drop(2) -> true",
            "make(3, 0, 0) -> UnsupportedOperationException", "collect() -> 18",
            "follow(0, 1, 0) -> true", "get(0, 2) -> 21", "follow(0, 0, 0) -> true", "get(0, 2) -> 22");
    }

    private static void restIsGone(Run run) {
        run.rows(
            "plain(0, 3, 3) -> done", "memory(18) -> true",
            "make(0, 0, 0) -> 1", "make(1, 0, 0) -> 2", "make(2, 0, 0) -> 3",
            "link(1, 0, 2) -> false", "link(2, 0, 1) -> false", "make(3, 0, 0) -> UnsupportedOperationException",
            "drop(1) -> true", "make(3, 0, 0) -> UnsupportedOperationException",
            "drop(2) -> true", "make(3, 0, 0) -> 4", "make(4, 0, 0) -> 5",
            "make(5, 0, 0) -> UnsupportedOperationException");
    }

    private static void nothingShowsWhereItLies(Run run) {
        run.rows(
            "row(0, 0) -> done", "row(1, 1) -> done", "plain(2, 2, 1) -> done", "memory(40) -> true",
            "make(9, 1, 20) -> 1", "make(0, 0, 2) -> 2", "make(1, 2, 0) -> 3", "number(1) -> 1",
            "put(1, 1, -7) -> done",
            "link(0, 0, 1) -> false", "link(0, 1, 0) -> false", "link(1, 0, 0) -> false", "number(0) -> 2");
        for (int made = 4; made <= 23; made++) {
            run.row("make(9, 1, " + made % 5 * 4 + ")", made);
            run.row(made % 2 == 0 ? "drop(9)" : "same(9, 9)", true);
            run.row("collect()", 11 + (made % 2 == 0 ? 0 : 4 + made % 5));
            run.rows(
                "number(0) -> 2", "number(1) -> 1", "get(1, 1) -> -7", "follow(0, 0, 2) -> true", "same(2, 1) -> true",
                "follow(0, 1, 2) -> true", "same(2, 0) -> true", "follow(1, 0, 2) -> true", "same(2, 0) -> true",
                "drop(2) -> true");
        }
    }

    /** So that the next row is the 512th call, which is the last that the document tells of. */
    private static void fillUp(Run run) {
        while (run.calls() < 511) {
            run.row("same(0, 0)", true);
        }
    }

    private static void mostMade(Run run) {
        run.row("plain(0, 16, 0)", "done");
        for (int made = 1; made <= 511; made++) {
            run.row("make(" + made % 32 + ", 0, 0)", made);
        }
    }

    private static void mostMadeInTheLeastRoom(Run run) {
        run.row("row(0, 3)", "done").row("memory(16)", true);
        for (int made = 1; made <= 510; made++) {
            run.row("make(0, 0, 4)", made);
        }
    }

    private static void longestChain(Run run) {
        run.row("plain(0, 1, 1)", "done");
        for (int made = 1; made <= 254; made++) {
            run.row("make(" + made % 2 + ", 0, 0)", made);
            run.row("link(" + made % 2 + ", 0, " + (made + 1) % 2 + ")", false);
        }
        run.row("drop(1)", true);
        fillUp(run);
        run.row("collect()", 4 * 254);
    }

    private static void mostReferences(Run run) {
        run.row("row(0, 0)", "done").row("make(0, 0, 509)", 1);
        for (int k = 508; k >= 0; k--) {
            run.row("link(0, " + k + ", 0)", false);
        }
        run.row("collect()", 513);
    }

    private static void mostElements(Run run) {
        run.row("row(0, 4)", "done").row("make(0, 0, 32766)", 1);
        for (int i = 0; i < 255; i++) {
            run.row("put(0, " + i * 128 + ", " + -i + ")", "done");
        }
        for (int i = 0; i < 255; i++) {
            run.row("get(0, " + i * 128 + ")", -i);
        }
    }

    private static void mostKept(Run run) {
        run.row("plain(0, 0, 0)", "done").row("make(0, 0, 0)", 1);
        for (int kept = 1; kept <= 510; kept++) {
            run.row("keep(0)", kept);
        }
    }

    private static void mostNumbers(Run run) {
        run.row("plain(0, 0, 0)", "done").row("every(1)", "done");
        for (int made = 1; made <= 255; made++) {
            run.row("make(0, 0, 0)", made).row("number(0)", made);
        }
    }
}
