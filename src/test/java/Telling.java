import java.util.ArrayList;
import java.util.List;

/**
 * What later calls tell of a desk: what each slot holds and what is in it, the room that is left,
 * the kinds, what is kept and how many were made, kept and numbered. Of many slots, kinds or places
 * only some are looked into, since a desk has 512 calls. The desk is used up.
 */
final class Telling {
    private static final int SLOTS = 32;
    private static final int KINDS = 16;
    /** What the telling makes and follows goes here: what it held is told first. */
    private static final int SPARE = 31;
    private static final int OWN_KIND = 15;
    private static final int OPENED_SLOTS = 6;
    private static final int OPENED_KINDS = 4;
    private static final int FIRST_PLACES = 3;

    private final MemoryDesk desk;
    private final List<String> told = new ArrayList<>();

    private Telling(MemoryDesk desk) {
        this.desk = desk;
    }

    static String[] of(MemoryDesk desk, int mostCalls) {
        Telling telling = new Telling(desk);
        telling.tellSlots();
        telling.tellRoom();
        telling.tellKept();
        telling.tellKinds();
        telling.tellHowManyAreKept();
        if (telling.told.size() > mostCalls) {
            throw new IllegalStateException("the run leaves too few calls: " + mostCalls);
        }
        return telling.told.toArray(new String[0]);
    }

    private String ask(String name, long... arguments) {
        Call call = new Call(name, arguments);
        String answer = call.on(desk);
        told.add(call + " -> " + answer);
        return answer;
    }

    private static boolean isNumber(String answer) {
        return Character.isDigit(answer.charAt(answer.length() - 1));
    }

    private void tellSlots() {
        int opened = 0;
        for (int s = SLOTS - 1; s >= 0; s--) {
            String size = ask("size", s);
            if (isNumber(size)) {
                ask("number", s);
            }
            if (isNumber(size) && s != SPARE && opened < OPENED_SLOTS) {
                opened++;
                tellPlaces(s, Long.parseLong(size));
            }
        }
        ask("collect");
    }

    /** The first places and the last: all of them would take more calls than the run leaves. */
    private void tellPlaces(int s, long size) {
        for (long k = 0; k < size; k++) {
            if (k < FIRST_PLACES || k == size - 1) {
                tellPlace(s, k);
            }
        }
    }

    private void tellPlace(int s, long k) {
        boolean isValue = isNumber(ask("get", s, k));
        if (!isValue && ask("follow", s, k, SPARE).equals("true")) {
            ask("number", SPARE);
        }
    }

    /** The longest row that can be made, by halving. */
    private void tellRoom() {
        ask("drop", SPARE);
        ask("row", OWN_KIND, MemoryDesk.INTS);
        int fits = -1;
        int tooLong = 65536;
        while (tooLong - fits > 1) {
            int middle = (fits + tooLong) / 2;
            if (isNumber(ask("make", SPARE, OWN_KIND, middle))) {
                ask("drop", SPARE);
                fits = middle;
            } else {
                tooLong = middle;
            }
        }
    }

    private void tellKinds() {
        ask("memory", 65536);
        int opened = 0;
        for (int kind = 0; kind < KINDS; kind++) {
            if (!isNumber(ask("make", SPARE, kind, 1))) {
                continue;
            }
            long size = Long.parseLong(ask("size", SPARE));
            ask("collect");
            ask("put", SPARE, 0, -300);
            opened++;
            for (long k = 0; k < (opened <= OPENED_KINDS ? size : Math.min(1, size)); k++) {
                ask("get", SPARE, k);
            }
        }
    }

    private void tellKept() {
        for (int s = 0; s < SLOTS; s++) {
            ask("drop", s);
        }
        ask("collect");
    }

    private void tellHowManyAreKept() {
        ask("make", SPARE, OWN_KIND, 0);
        ask("keep", SPARE);
    }
}
