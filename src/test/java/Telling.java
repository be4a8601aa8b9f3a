import java.util.ArrayList;
import java.util.List;
import java.util.function.Supplier;

/**
 * What later calls tell of a desk: what each slot holds, what is in it and what that names, the room
 * that is left, the kinds, what is kept and how many were made, kept and numbered. A desk has 512
 * calls, so the questions go to as many desks as they need, all with the same calls behind them.
 */
final class Telling {
    private static final int SLOTS = 32;
    private static final int KINDS = 16;
    private static final int SPARE = 31;
    private static final int OWN_KIND = 15;
    private static final int FIRST_PLACES = 64;

    /** The most calls that must go to one desk: for a place, and for a kind of 16 words. */
    private static final int CALLS_OF_A_PLACE = 4;
    private static final int CALLS_OF_A_KIND = 35;

    private final Supplier<MemoryDesk> desks;
    private final int callsOfEach;
    private final Call asked;
    private final List<String> told = new ArrayList<>();
    private MemoryDesk desk;
    private int left;

    private Telling(Supplier<MemoryDesk> desks, int callsOfEach, Call asked) {
        this.desks = desks;
        this.callsOfEach = callsOfEach;
        this.asked = asked;
    }

    /** What desks tell that can be asked so many calls each; the place that a call asked for is among it. */
    static List<String> of(Supplier<MemoryDesk> desks, int callsOfEach, Call asked) {
        Telling telling = new Telling(desks, callsOfEach, asked);
        telling.tellSlots();
        telling.tellRoom();
        telling.tellKinds();
        telling.tellKept();
        return telling.told;
    }

    private void takeDesk() {
        desk = desks.get();
        left = callsOfEach;
    }

    private String ask(String name, long... arguments) {
        if (left == 0) {
            throw new IllegalStateException("the run leaves too few calls: " + callsOfEach);
        }
        left--;
        Call call = new Call(name, arguments);
        String answer = call.on(desk);
        told.add(call + " -> " + answer);
        return answer;
    }

    private static boolean isNumber(String answer) {
        return Character.isDigit(answer.charAt(answer.length() - 1));
    }

    private void tellSlots() {
        takeDesk();
        long[] sizes = new long[SLOTS];
        for (int s = 0; s < SLOTS; s++) {
            String size = ask("size", s);
            sizes[s] = isNumber(size) ? Long.parseLong(size) : 0;
        }
        ask("collect");
        for (int s = 0; s < SLOTS; s++) {
            if (sizes[s] > 0) {
                tellPlaces(s, sizes[s]);
            }
        }
    }

    /** Of a row of many places the first, the last and the one that was asked for. */
    private void tellPlaces(int s, long size) {
        takeNumberedDesk();
        for (long k = 0; k < Math.min(size, FIRST_PLACES); k++) {
            tellPlace(s, k);
        }
        if (size > FIRST_PLACES) {
            tellPlace(s, size - 1);
            tellAskedPlace(s, size);
        }
    }

    private void tellAskedPlace(int s, long size) {
        long k = asked.arguments.length > 1 ? asked.arguments[1] : 0;
        if (k >= FIRST_PLACES && k < size) {
            tellPlace(s, k);
        }
    }

    /** Each slot's object has its number, so that the number of what a place names tells which it is. */
    private void takeNumberedDesk() {
        takeDesk();
        for (int s = 0; s < SLOTS; s++) {
            ask("number", s);
        }
    }

    private void tellPlace(int s, long k) {
        if (left < CALLS_OF_A_PLACE) {
            takeNumberedDesk();
        }
        int spare = s == SPARE ? SPARE - 1 : SPARE;
        boolean isValue = isNumber(ask("get", s, k));
        if (!isValue && ask("follow", s, k, spare).equals("true")) {
            ask("number", spare);
            ask("size", spare);
        }
    }

    /** The longest row that can be made, by halving. */
    private void tellRoom() {
        takeDesk();
        ask("row", OWN_KIND, MemoryDesk.INTS);
        ask("drop", SPARE);
        int fits = -1;
        int tooLong = 65536;
        while (tooLong - fits > 1) {
            int middle = (fits + tooLong) / 2;
            if (isNumber(ask("make", SPARE, OWN_KIND, middle))) {
                ask("drop", SPARE);
                fits = middle;
            } else {
                tooLong = middle;
            }
        }
    }

    private void tellKinds() {
        takeEmptiedDesk();
        for (int kind = 0; kind < KINDS; kind++) {
            if (left < CALLS_OF_A_KIND) {
                takeEmptiedDesk();
            }
            if (isNumber(ask("make", SPARE, kind, 1))) {
                tellKind();
            }
        }
    }

    private void tellKind() {
        long size = Long.parseLong(ask("size", SPARE));
        ask("collect");
        for (long k = 0; k < size; k++) {
            ask("put", SPARE, k, 0x1234567890ABCDEFL);
            ask("get", SPARE, k);
        }
    }

    private void tellKept() {
        takeEmptiedDesk();
        ask("row", OWN_KIND, MemoryDesk.INTS);
        ask("make", SPARE, OWN_KIND, 0);
        ask("keep", SPARE);
        ask("number", SPARE);
    }

    /** What is left on it are the kinds and what is kept. */
    private void takeEmptiedDesk() {
        takeDesk();
        for (int s = 0; s < SLOTS; s++) {
            ask("drop", s);
        }
        ask("collect");
        ask("memory", 65536);
    }
}
