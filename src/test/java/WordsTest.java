/** Promises 8 and 9: get and put. */
public final class WordsTest {
    /** Each kind of element on either side of where its bits end. */
    private static final long[][] CUT = {
        // elements, what is put, what is got
        {1, 0, 0}, {1, 127, 127}, {1, 128, -128}, {1, 255, -1}, {1, 256, 0}, {1, -1, -1}, {1, -128, -128},
        {1, -129, 127}, {1, -256, 0}, {1, 0x1234567F, 127},
        {2, 0, 0}, {2, 32767, 32767}, {2, 32768, 32768}, {2, 65535, 65535}, {2, 65536, 0}, {2, 65537, 1},
        {2, -1, 65535}, {2, -32768, 32768}, {2, -65535, 1}, {2, -65536, 0}, {2, 0x12345678FFFFL, 65535},
        {3, 0, 0}, {3, 65536, 65536}, {3, 2147483647L, 2147483647L}, {3, 2147483648L, -2147483648L},
        {3, 4294967295L, -1}, {3, 4294967296L, 0}, {3, -1, -1}, {3, -2147483648L, -2147483648L},
        {3, -2147483649L, 2147483647L}, {3, Long.MIN_VALUE, 0}, {3, Long.MAX_VALUE, -1},
        {4, 0, 0}, {4, -1, -1}, {4, 2147483648L, 2147483648L}, {4, 4294967296L, 4294967296L},
        {4, -2147483649L, -2147483649L}, {4, Long.MIN_VALUE, Long.MIN_VALUE}, {4, Long.MAX_VALUE, Long.MAX_VALUE},
    };

    public static void main(String[] args) {
        Due due = new Due();
        due.says("Promise 8", "WORD or element k of what SLOT s holds, as it was put", WordsTest::placesAreApart);
        due.says("Promise 8", "WORD or element k of what SLOT s holds, as it was put", WordsTest::outlivesCollecting);
        due.says("Promise 8", "(OCTETS, WORDS, INTS and LONGS with sign, HALVES without, the lowest bits)",
            WordsTest::signs);
        due.says("Promise 8", "IndexOutOfBoundsException: there is none.", WordsTest::getsNoPlaceOutside);
        due.says("Promise 8", "UnsupportedOperationException: it is a REFERENCE.", WordsTest::getsNoReference);
        due.says("Promise 9", "It is v", WordsTest::putsOverWhatWasPut);
        due.says("Promise 9", "(the lowest 32, 16, 8 bits, as many as it has)", WordsTest::lowestBitsOfElements);
        due.says("Promise 9", "(the lowest 32, 16, 8 bits, as many as it has)", WordsTest::lowestBitsOfWords);
        due.says("Promise 9", "IndexOutOfBoundsException, UnsupportedOperationException likewise.",
            WordsTest::putsToNoPlaceOutside);
        due.says("Promise 9", "IndexOutOfBoundsException, UnsupportedOperationException likewise.",
            WordsTest::putsToNoReference);
        due.end();
    }

    private static String put(int s, int k, long v) {
        return "put(" + s + ", " + k + ", " + v + ")";
    }

    private static void placesAreApart(Run first) {
        for (int elements = 1; elements <= 4; elements++) {
            Run run = first.anew().row("row(0, " + elements + ")", "done");
            run.rows("make(0, 0, 9) -> 1", "make(1, 0, 9) -> 2");
            for (int k = 0; k < 9; k += 2) {
                run.row(put(0, k, -1), "done");
                run.row(put(1, 8 - k, k + 1), "done");
            }
            long ones = elements == MemoryDesk.HALVES ? 65535 : -1;
            for (int k = 0; k < 9; k++) {
                run.row("get(0, " + k + ")", k % 2 == 0 ? ones : 0);
                run.row("get(1, " + k + ")", k % 2 == 0 ? 9 - k : 0);
            }
        }
        Run run = first.anew().rows("plain(0, 16, 0x0010) -> done", "make(0, 0, 0) -> 1");
        for (int k = 0; k < 16; k++) {
            run.row(put(0, k, 100 - k), k == 4 ? "UnsupportedOperationException" : "done");
        }
        for (int k = 0; k < 16; k++) {
            run.row("get(0, " + k + ")", k == 4 ? "UnsupportedOperationException" : String.valueOf(100 - k));
        }
    }

    private static void outlivesCollecting(Run run) {
        run.rows(
            "plain(0, 16, 0x00F0) -> done", "row(1, 4) -> done", "memory(64) -> true",
            "make(0, 0, 0) -> 1", "make(1, 1, 10) -> 2",
            "put(0, 0, 7) -> done", "put(0, 15, -7) -> done", "put(1, 9, -9223372036854775808) -> done");
        for (int time = 0; time < 20; time++) {
            run.row("make(2, 1, 2)", time + 3);
            run.row(put(2, 0, time), "done");
            run.row(put(2, 1, -time), "done");
            run.row("collect()", 51);
            run.rows(
                "get(0, 0) -> 7", "get(0, 15) -> -7", "get(1, 9) -> -9223372036854775808", "get(1, 0) -> 0");
        }
    }

    private static void signs(Run run) {
        run.rows(
            "row(1, 1) -> done", "row(2, 2) -> done", "row(3, 3) -> done", "row(4, 4) -> done",
            "plain(0, 1, 0) -> done",
            "make(1, 1, 1) -> 1", "make(2, 2, 1) -> 2", "make(3, 3, 1) -> 3", "make(4, 4, 1) -> 4",
            "make(0, 0, 0) -> 5",
            "put(1, 0, 128) -> done", "get(1, 0) -> -128", "put(1, 0, 127) -> done", "get(1, 0) -> 127",
            "put(2, 0, 32768) -> done", "get(2, 0) -> 32768", "put(2, 0, -1) -> done", "get(2, 0) -> 65535",
            "put(3, 0, 2147483648) -> done", "get(3, 0) -> -2147483648",
            "put(3, 0, 2147483647) -> done", "get(3, 0) -> 2147483647",
            "put(4, 0, -9223372036854775808) -> done", "get(4, 0) -> -9223372036854775808",
            "put(4, 0, 9223372036854775807) -> done", "get(4, 0) -> 9223372036854775807",
            "put(0, 0, 2147483648) -> done", "get(0, 0) -> -2147483648",
            "put(0, 0, 2147483647) -> done", "get(0, 0) -> 2147483647");
    }

    private static void getsNoPlaceOutside(Run run) {
        noPlaceOutside(run, "get(", ")", 0);
    }

    private static void putsToNoPlaceOutside(Run run) {
        noPlaceOutside(run, "put(", ", 5)", "done");
    }

    private static void noPlaceOutside(Run run, String start, String end, Object answer) {
        run.rows(
            "plain(0, 0, 0) -> done", "plain(1, 1, 0) -> done", "plain(2, 16, 0) -> done", "row(3, 1) -> done",
            "row(4, 4) -> done", "make(0, 0, 0) -> 1", "make(1, 1, 0) -> 2", "make(2, 2, 0) -> 3",
            "make(3, 3, 0) -> 4", "make(4, 3, 6) -> 5", "make(5, 4, 30000) -> 6");
        int[] sizes = {0, 1, 16, 0, 6, 30000};
        for (int s = 0; s < sizes.length; s++) {
            int size = sizes[s];
            for (int k : new int[] {-1, -30000, Integer.MIN_VALUE, size, size + 1, size + 32, Integer.MAX_VALUE}) {
                run.row(start + s + ", " + k + end, "IndexOutOfBoundsException");
            }
            if (size > 0) {
                run.row(start + s + ", 0" + end, answer);
                run.row(start + s + ", " + (size - 1) + end, answer);
            }
        }
    }

    private static void getsNoReference(Run run) {
        noReference(run, "get(", ")", 0);
    }

    private static void putsToNoReference(Run run) {
        noReference(run, "put(", ", 5)", "done");
    }

    private static void noReference(Run run, String start, String end, Object answer) {
        run.rows("plain(0, 16, 0x8001) -> done", "row(1, 0) -> done", "make(0, 0, 0) -> 1", "make(1, 1, 2) -> 2");
        String[] references = {"0, 0", "0, 15", "1, 0", "1, 1"};
        for (String reference : references) {
            run.row(start + reference + end, "UnsupportedOperationException");
            run.row("link(" + reference + ", 0)", false);
            run.row(start + reference + end, "UnsupportedOperationException");
            run.row("follow(" + reference + ", 5)", true);
            run.row("same(0, 5)", true);
        }
        run.row(start + "0, 1" + end, answer).row(start + "0, 14" + end, answer);
    }

    private static void putsOverWhatWasPut(Run run) {
        run.rows(
            "plain(0, 2, 0) -> done", "row(1, 2) -> done", "make(0, 0, 0) -> 1", "make(1, 1, 2) -> 2",
            "copy(2, 0) -> true", "put(0, 1, 5) -> done", "get(0, 1) -> 5", "get(2, 1) -> 5",
            "put(2, 1, -6) -> done", "get(0, 1) -> -6", "put(0, 1, 0) -> done", "get(2, 1) -> 0", "get(0, 0) -> 0",
            "put(1, 0, 65535) -> done", "put(1, 0, 1) -> done", "get(1, 0) -> 1", "get(1, 1) -> 0");
    }

    private static void lowestBitsOfElements(Run first) {
        for (int elements = 1; elements <= 4; elements++) {
            Run run = first.anew().row("row(0, " + elements + ")", "done").row("make(0, 0, 3)", 1);
            for (long[] cut : CUT) {
                if (cut[0] == elements) {
                    run.row(put(0, 1, cut[1]), "done").row("get(0, 1)", cut[2]);
                    run.rows("get(0, 0) -> 0", "get(0, 2) -> 0");
                }
            }
        }
    }

    private static void lowestBitsOfWords(Run run) {
        run.rows("plain(0, 3, 0) -> done", "make(0, 0, 0) -> 1");
        for (long[] cut : CUT) {
            if (cut[0] == MemoryDesk.INTS) {
                run.row(put(0, 1, cut[1]), "done").row("get(0, 1)", cut[2]);
                run.rows("get(0, 0) -> 0", "get(0, 2) -> 0");
            }
        }
    }
}
