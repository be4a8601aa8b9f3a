/** The section "Terms", but for the order of exceptions and for calls that throw. */
public final class TermsTest {
    private static final String ARGUMENT = "IllegalArgumentException";
    private static final int[] OUTSIDE_SLOTS = {-1, 32, 33, -32, 64, Integer.MIN_VALUE, Integer.MAX_VALUE};
    private static final int[] OUTSIDE_KINDS = {-1, 16, 17, -16, 32, Integer.MIN_VALUE, Integer.MAX_VALUE};

    public static void main(String[] args) {
        Due due = new Due();
        due.says("Terms", "KINDS 0..15", TermsTest::kindsOutside);
        due.says("Terms", "KINDS 0..15", TermsTest::allKinds);
        due.says("Terms", "each defined once", TermsTest::definedOnce);
        due.says("Terms", "PLAIN: 0 to 16 WORDS", TermsTest::plainOfEachLength);
        due.says("Terms", "of which some are REFERENCES (bit k of a mask: WORD k)", TermsTest::eachBitOfTheMask);
        due.says("Terms", "or a ROW of elements: of REFERENCES, or of ints of 8, 16, 32 or longs of 64 bits.",
            TermsTest::rowOfEachElement);
        due.says("Terms", "a PLAIN one 3 words and its WORDS", TermsTest::wordsOfPlainOnes);
        due.says("Terms", "a ROW of n 4 words and its elements", TermsTest::wordsOfEmptyRows);
        due.says("Terms", "REFERENCES, 32: 1 each", TermsTest::wordsOfReferences);
        due.says("Terms", "REFERENCES, 32: 1 each", TermsTest::wordsOfInts);
        due.says("Terms", "64: 2 each", TermsTest::wordsOfLongs);
        due.says("Terms", "16: two a word", TermsTest::wordsOfHalves);
        due.says("Terms", "8: four a word (rounded up).", TermsTest::wordsOfOctets);
        due.says("Terms", "8: four a word (rounded up).", TermsTest::eachRowIsRoundedUp);
        due.says("Terms", "SLOTS 0..31", TermsTest::slotsOutside);
        due.says("Terms", "hold an OBJECT or none.", TermsTest::allSlots);
        due.says("Terms", "REACHABLE are OBJECTS that SLOTS hold", TermsTest::reachableFromEachSlot);
        due.says("Terms", "those that are kept for ever", TermsTest::reachableFromKept);
        due.says("Terms", "and those that REFERENCES of REACHABLE ones name.", TermsTest::reachableThroughReferences);
        due.says("Terms", "and those that REFERENCES of REACHABLE ones name.",
            TermsTest::reachableThroughEachReference);
        due.says("Terms", "and those that REFERENCES of REACHABLE ones name.",
            TermsTest::notReachableFromTheUnreachable);
        due.says("Terms", "and those that REFERENCES of REACHABLE ones name.", TermsTest::notReachableThroughNumbers);
        due.says("Terms", "MEMORY: 65536 words at first.", TermsTest::memoryAtFirst);
        due.says("Terms", "MEMORY: 65536 words at first.", TermsTest::memoryAtFirstForMany);
        due.says("Terms", "An OBJECT is made if all that are REACHABLE and it take no more than MEMORY has.",
            TermsTest::roomToTheLastWord);
        due.says("Terms", "An OBJECT is made if all that are REACHABLE and it take no more than MEMORY has.",
            TermsTest::whatIsNotReachableTakesNoRoom);
        due.says("Terms", "All its WORDS and elements are 0, REFERENCES name none.", TermsTest::newPlainOnesAreEmpty);
        due.says("Terms", "All its WORDS and elements are 0, REFERENCES name none.", TermsTest::newRowsAreEmpty);
        due.says("Terms", "All its WORDS and elements are 0, REFERENCES name none.", TermsTest::emptyWhereOthersLay);
        due.end();
    }

    private static void kindsOutside(Run run) {
        for (int k : OUTSIDE_KINDS) {
            run.row("plain(" + k + ", 1, 0)", ARGUMENT);
            run.row("row(" + k + ", 1)", ARGUMENT);
            run.row("make(0, " + k + ", 0)", ARGUMENT);
        }
        run.rows(
            "plain(0, 1, 0) -> done", "make(0, 0, 0) -> 1", "plain(15, 2, 0) -> done", "make(0, 15, 0) -> 2",
            "size(0) -> 2");
        run.anew().rows(
            "row(0, 1) -> done", "make(0, 0, 3) -> 1", "row(15, 4) -> done", "make(0, 15, 3) -> 2", "collect() -> 10");
    }

    private static void allKinds(Run run) {
        for (int k = 0; k <= 15; k++) {
            run.row(k % 3 == 0 ? "row(" + k + ", 3)" : "plain(" + k + ", " + k + ", 0)", "done");
        }
        for (int k = 0; k <= 15; k++) {
            run.row("make(0, " + k + ", 40)", k + 1);
            run.row("size(0)", k % 3 == 0 ? 40 : k);
        }
    }

    private static void definedOnce(Run run) {
        for (int k = 0; k <= 15; k++) {
            run.row(k % 2 == 0 ? "row(" + k + ", 3)" : "plain(" + k + ", 2, 1)", "done");
            run.row("row(" + k + ", 3)", ARGUMENT);
            run.row("plain(" + k + ", 2, 1)", ARGUMENT);
        }
        for (int k = 0; k <= 15; k++) {
            run.row("plain(" + k + ", 3, 0)", ARGUMENT);
            run.row("make(0, " + k + ", 9)", k + 1);
            run.row("size(0)", k % 2 == 0 ? 9 : 2);
        }
    }

    private static void plainOfEachLength(Run first) {
        for (int words = 0; words <= 16; words++) {
            Run run = first.anew().row("plain(0, " + words + ", 0)", "done").row("make(0, 0, 0)", 1);
            for (int k = 0; k < words; k++) {
                run.row("put(0, " + k + ", " + -k + ")", "done").row("get(0, " + k + ")", -k);
            }
            run.row("get(0, " + words + ")", "IndexOutOfBoundsException").row("size(0)", words);
        }
        first.rows("plain(0, -1, 0) -> IllegalArgumentException", "plain(0, 17, 0) -> IllegalArgumentException");
    }

    private static void eachBitOfTheMask(Run first) {
        for (int bit = 0; bit <= 15; bit++) {
            Run run = first.anew().row("plain(0, 16, " + (1 << bit) + ")", "done").row("make(0, 0, 0)", 1);
            for (int k = 0; k <= 15; k++) {
                run.row("get(0, " + k + ")", k == bit ? "UnsupportedOperationException" : "0");
                run.row("link(0, " + k + ", 0)", k == bit ? "false" : "UnsupportedOperationException");
            }
        }
    }

    private static void rowOfEachElement(Run run) {
        Object[] ones = {"UnsupportedOperationException", -1, 65535, -1, -1};
        Object[] large = {"UnsupportedOperationException", 0, 0, 65536, 65536};
        Object[] larger = {"UnsupportedOperationException", 0, 0, 0, 4294967296L};
        for (int elements = 0; elements <= 4; elements++) {
            String putDone = elements == MemoryDesk.REFERENCES ? "UnsupportedOperationException" : "done";
            run.row("row(" + elements + ", " + elements + ")", "done");
            run.row("make(0, " + elements + ", 2)", elements + 1);
            run.row("put(0, 1, -1)", putDone).row("get(0, 1)", ones[elements]);
            run.row("put(0, 1, 65536)", putDone).row("get(0, 1)", large[elements]);
            run.row("put(0, 1, 4294967296)", putDone).row("get(0, 1)", larger[elements]);
            run.row("link(0, 1, 0)", elements == MemoryDesk.REFERENCES ? "false" : "UnsupportedOperationException");
        }
    }

    private static void wordsOfPlainOnes(Run first) {
        for (int words = 0; words <= 16; words++) {
            Run run = first.anew().row("plain(0, " + words + ", 0)", "done");
            takes(run, 0, 3 + words);
            run = first.anew().row("plain(0, " + words + ", " + ((1 << words) - 1) + ")", "done");
            takes(run, 0, 3 + words);
        }
    }

    private static void wordsOfEmptyRows(Run first) {
        for (int elements = 0; elements <= 4; elements++) {
            rowTakes(first, elements, 0, 4);
        }
    }

    private static void wordsOfReferences(Run first) {
        for (int n : new int[] {1, 2, 3, 4, 5, 1000}) {
            rowTakes(first, MemoryDesk.REFERENCES, n, 4 + n);
        }
    }

    private static void wordsOfInts(Run first) {
        for (int n : new int[] {1, 2, 3, 4, 5, 1000}) {
            rowTakes(first, MemoryDesk.INTS, n, 4 + n);
        }
    }

    private static void wordsOfLongs(Run first) {
        for (int n : new int[] {1, 2, 3, 4, 5, 1000}) {
            rowTakes(first, MemoryDesk.LONGS, n, 4 + n + n);
        }
    }

    private static void wordsOfHalves(Run first) {
        int[][] rows = {{1, 5}, {2, 5}, {3, 6}, {4, 6}, {5, 7}, {999, 504}, {1000, 504}, {1001, 505}};
        for (int[] row : rows) {
            rowTakes(first, MemoryDesk.HALVES, row[0], row[1]);
        }
    }

    private static void wordsOfOctets(Run first) {
        int[][] rows = {
            {1, 5}, {2, 5}, {3, 5}, {4, 5}, {5, 6}, {6, 6}, {7, 6}, {8, 6}, {9, 7},
            {996, 253}, {997, 254}, {1000, 254}, {1001, 255},
        };
        for (int[] row : rows) {
            rowTakes(first, MemoryDesk.OCTETS, row[0], row[1]);
        }
    }

    private static void eachRowIsRoundedUp(Run run) {
        run.rows(
            "row(1, 1) -> done", "row(2, 2) -> done", "memory(20) -> true",
            "make(0, 1, 1) -> 1", "make(1, 1, 1) -> 2", "make(2, 2, 1) -> 3", "collect() -> 15",
            "make(3, 1, 5) -> UnsupportedOperationException", "make(3, 1, 4) -> 4", "collect() -> 20");
    }

    private static void rowTakes(Run first, int elements, int n, int words) {
        takes(first.anew().row("row(0, " + elements + ")", "done"), n, words);
    }

    /** As collect tells it, as memory does, and as there is room for it. */
    private static void takes(Run run, int n, int words) {
        run.row("make(0, 0, " + n + ")", 1).row("collect()", words);
        run.row("make(1, 0, " + n + ")", 2).row("collect()", 2 * words);
        if (2 * words > 16) {
            run.row("memory(" + (2 * words - 1) + ")", false).row("memory(" + 2 * words + ")", true);
            run.row("make(2, 0, " + n + ")", "UnsupportedOperationException").row("drop(0)", true);
            run.row("make(2, 0, " + n + ")", 3).row("collect()", 2 * words);
        }
    }

    private static void slotsOutside(Run run) {
        run.rows("plain(0, 2, 1) -> done", "make(0, 0, 0) -> 1", "make(31, 0, 0) -> 2");
        for (int s : OUTSIDE_SLOTS) {
            for (String call : new String[] {
                "make(S, 0, 0)", "copy(S, 0)", "copy(0, S)", "copy(S, S)", "drop(S)", "same(S, 0)", "same(0, S)",
                "same(S, S)", "get(S, 1)", "put(S, 1, 5)", "link(S, 0, 0)", "link(0, 0, S)", "follow(S, 0, 0)",
                "follow(0, 0, S)", "keep(S)", "number(S)", "size(S)",
            }) {
                run.row(call.replace("S", String.valueOf(s)), ARGUMENT);
            }
        }
        run.rows(
            "copy(0, 31) -> true", "copy(31, 0) -> true", "same(0, 31) -> true", "same(31, 0) -> true",
            "put(31, 1, 5) -> done", "get(0, 1) -> 5", "link(31, 0, 0) -> false", "link(0, 0, 31) -> true",
            "follow(31, 0, 0) -> true", "follow(0, 0, 31) -> true", "keep(31) -> 1", "keep(0) -> 2",
            "number(31) -> 1", "number(0) -> 1", "size(31) -> 2", "size(0) -> 2", "drop(31) -> true",
            "drop(0) -> true");
    }

    private static void allSlots(Run run) {
        run.row("row(0, 3)", "done");
        for (int s = 0; s <= 31; s++) {
            run.row("size(" + s + ")", "IllegalStateException");
            run.row("make(" + s + ", 0, " + s + ")", s + 1);
        }
        for (int s = 0; s <= 31; s++) {
            run.row("size(" + s + ")", s).row("same(" + s + ", 0)", s == 0);
        }
        for (int s = 0; s <= 31; s++) {
            run.row("drop(" + s + ")", true).row("drop(" + s + ")", false);
            if (s < 31) {
                run.row("size(31)", 31);
            }
        }
    }

    private static void reachableFromEachSlot(Run run) {
        run.rows("plain(0, 1, 0) -> done", "memory(16) -> true", "make(0, 0, 0) -> 1", "put(0, 0, 77) -> done");
        for (int s = 1; s <= 31; s++) {
            run.row("copy(" + s + ", " + (s - 1) + ")", true).row("drop(" + (s - 1) + ")", true);
            run.row("collect()", 4).row("get(" + s + ", 0)", 77);
        }
        run.rows("drop(31) -> true", "collect() -> 0");
    }

    private static void reachableFromKept(Run run) {
        run.rows(
            "plain(0, 1, 1) -> done", "memory(16) -> true",
            "make(0, 0, 0) -> 1", "keep(0) -> 1", "make(1, 0, 0) -> 2", "keep(1) -> 2", "make(2, 0, 0) -> 3",
            "link(1, 0, 2) -> false", "make(3, 0, 0) -> 4",
            "drop(0) -> true", "drop(1) -> true", "drop(2) -> true", "collect() -> 16",
            "make(4, 0, 0) -> UnsupportedOperationException",
            "drop(3) -> true", "collect() -> 12", "make(4, 0, 0) -> 5",
            "make(4, 0, 0) -> UnsupportedOperationException");
    }

    private static void reachableThroughReferences(Run run) {
        run.row("plain(0, 2, 1)", "done");
        for (int made = 1; made <= 120; made++) {
            int s = made % 2;
            run.row("make(" + s + ", 0, 0)", made).row("put(" + s + ", 1, " + made + ")", "done");
            run.row("link(" + s + ", 0, " + (1 - s) + ")", false);
        }
        run.rows("drop(1) -> true", "collect() -> 600");
        for (int left = 120; left > 100; left--) {
            run.row("get(0, 1)", left).row("follow(0, 0, 0)", true).row("collect()", 5 * (left - 1));
        }
    }

    private static void reachableThroughEachReference(Run run) {
        run.rows("plain(0, 16, 0xFFFF) -> done", "plain(1, 1, 0) -> done", "make(0, 0, 0) -> 1");
        for (int k = 0; k <= 15; k++) {
            run.row("make(1, 1, 0)", k + 2).row("link(0, " + k + ", 1)", false).row("drop(1)", true);
            run.row("collect()", 19 + 4 * (k + 1));
        }
        for (int k = 0; k <= 15; k++) {
            run.row("link(0, " + k + ", 1)", true).row("collect()", 19 + 4 * (15 - k));
        }
    }

    private static void notReachableFromTheUnreachable(Run run) {
        run.rows(
            "plain(0, 1, 1) -> done", "make(0, 0, 0) -> 1", "make(1, 0, 0) -> 2", "make(2, 0, 0) -> 3",
            "link(0, 0, 1) -> false", "link(1, 0, 0) -> false", "link(2, 0, 2) -> false",
            "drop(0) -> true", "collect() -> 12", "drop(1) -> true", "collect() -> 4",
            "drop(2) -> true", "collect() -> 0");
    }

    private static void notReachableThroughNumbers(Run run) {
        run.rows(
            "plain(0, 2, 0) -> done", "row(1, 3) -> done", "make(0, 0, 0) -> 1", "number(0) -> 1",
            "make(1, 0, 0) -> 2", "put(1, 0, 1) -> done", "put(1, 1, 0) -> done",
            "make(2, 1, 2) -> 3", "put(2, 0, 1) -> done", "put(2, 1, 0) -> done",
            "collect() -> 16", "drop(0) -> true", "collect() -> 11");
    }

    private static void memoryAtFirst(Run run) {
        run.rows(
            "row(0, 3) -> done", "make(0, 0, 65533) -> UnsupportedOperationException", "make(0, 0, 65532) -> 1",
            "collect() -> 65536");
    }

    private static void memoryAtFirstForMany(Run run) {
        run.rows("row(0, 3) -> done", "plain(1, 0, 0) -> done", "plain(2, 1, 0) -> done");
        for (int s = 0; s < 7; s++) {
            run.row("make(" + s + ", 0, 8188)", s + 1);
        }
        run.rows(
            "make(7, 0, 8185) -> 8", "collect() -> 65533",
            "make(8, 2, 0) -> UnsupportedOperationException", "make(8, 1, 0) -> 9", "collect() -> 65536",
            "make(9, 1, 0) -> UnsupportedOperationException");
    }

    private static void roomToTheLastWord(Run run) {
        run.rows(
            "plain(0, 16, 1) -> done", "row(1, 1) -> done", "plain(2, 0, 0) -> done", "memory(62) -> true",
            "make(0, 0, 0) -> 1", "make(1, 0, 0) -> 2", "link(0, 0, 1) -> false", "drop(1) -> true", "keep(0) -> 1",
            "make(2, 1, 81) -> UnsupportedOperationException", "make(2, 1, 80) -> 3", "collect() -> 62",
            "make(3, 2, 0) -> UnsupportedOperationException", "drop(0) -> true",
            "make(3, 2, 0) -> UnsupportedOperationException", "drop(2) -> true",
            "make(3, 1, 81) -> UnsupportedOperationException", "make(3, 1, 80) -> 4");
    }

    private static void whatIsNotReachableTakesNoRoom(Run run) {
        run.rows(
            "row(0, 0) -> done", "memory(30) -> true", "make(0, 0, 6) -> 1", "make(1, 0, 6) -> 2", "make(2, 0, 6) -> 3",
            "link(1, 0, 2) -> false", "link(2, 0, 1) -> false", "drop(1) -> true", "drop(2) -> true",
            "make(1, 0, 17) -> UnsupportedOperationException", "make(1, 0, 16) -> 4", "collect() -> 30",
            "drop(0) -> true", "drop(1) -> true", "make(0, 0, 27) -> UnsupportedOperationException",
            "make(0, 0, 26) -> 5");
    }

    private static void newPlainOnesAreEmpty(Run run) {
        run.rows("plain(0, 16, 0x5555) -> done", "make(0, 0, 0) -> 1", "make(9, 0, 0) -> 2");
        for (int k = 0; k <= 15; k++) {
            if (k % 2 == 0) {
                run.row("link(0, " + k + ", 9)", false);
            } else {
                run.row("put(0, " + k + ", -1)", "done");
            }
        }
        run.row("make(1, 0, 0)", 3);
        for (int k = 0; k <= 15; k++) {
            run.row((k % 2 == 0 ? "follow(1, " + k + ", 5)" : "get(1, " + k + ")"), k % 2 == 0 ? "false" : "0");
        }
        run.row("size(5)", "IllegalStateException");
    }

    private static void newRowsAreEmpty(Run first) {
        for (int elements = 0; elements <= 4; elements++) {
            Run run = first.anew().row("row(0, " + elements + ")", "done").row("make(0, 0, 40)", 1);
            for (int k = 0; k < 40; k++) {
                boolean isReference = elements == MemoryDesk.REFERENCES;
                run.row(isReference ? "follow(0, " + k + ", 5)" : "get(0, " + k + ")", isReference ? "false" : "0");
            }
        }
    }

    /** In the least room, so that new objects lie where old ones did, if they lie anywhere. */
    private static void emptyWhereOthersLay(Run run) {
        run.rows(
            "plain(0, 2, 2) -> done", "row(1, 4) -> done", "row(2, 0) -> done", "row(3, 1) -> done",
            "memory(16) -> true");
        for (int made = 1; made <= 40; made += 4) {
            run.row("make(0, 0, 0)", made);
            run.rows(
                "get(0, 0) -> 0", "follow(0, 1, 1) -> false", "put(0, 0, -1) -> done", "link(0, 1, 0) -> false",
                "drop(0) -> true");
            run.row("make(0, 1, 6)", made + 1);
            run.rows("get(0, 0) -> 0", "get(0, 5) -> 0", "put(0, 0, -1) -> done", "put(0, 5, -1) -> done",
                "drop(0) -> true");
            run.row("make(0, 2, 12)", made + 2);
            run.rows(
                "follow(0, 0, 1) -> false", "follow(0, 11, 1) -> false", "link(0, 0, 0) -> false",
                "link(0, 11, 0) -> false", "drop(0) -> true");
            run.row("make(0, 3, 48)", made + 3);
            run.rows("get(0, 0) -> 0", "get(0, 47) -> 0", "put(0, 0, -1) -> done", "put(0, 47, -1) -> done",
                "drop(0) -> true");
        }
    }
}
