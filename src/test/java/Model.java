import java.util.ArrayDeque;
import java.util.ArrayList;
import java.util.Arrays;
import java.util.Collections;
import java.util.Deque;
import java.util.IdentityHashMap;
import java.util.List;
import java.util.Set;

/**
 * The document told again in the plainest way, with no thought of room or speed: every place of
 * every object is held, and what is reachable is looked for anew whenever it matters.
 */
final class Model {
    private static final class Kind {
        boolean isRow;
        int elements;
        int words;
        int mask;
    }

    private static final class Thing {
        Kind kind;
        long[] values;
        Thing[] named;
        int number;

        boolean isReference(int k) {
            return kind.isRow ? kind.elements == MemoryDesk.REFERENCES : (kind.mask & 1 << k) != 0;
        }

        long words() {
            return wordsOf(kind, values.length);
        }
    }

    private final Kind[] kinds = new Kind[16];
    private final Thing[] slots = new Thing[32];
    private final List<Thing> kept = new ArrayList<>();
    private int memory = 65536;
    private int made;
    private int numbers;

    private static long wordsOf(Kind kind, long n) {
        if (!kind.isRow) {
            return 3 + kind.words;
        }
        switch (kind.elements) {
            case MemoryDesk.OCTETS:
                return 4 + n / 4 + (n % 4 == 0 ? 0 : 1);
            case MemoryDesk.HALVES:
                return 4 + n / 2 + n % 2;
            case MemoryDesk.LONGS:
                return 4 + n + n;
            default:
                return 4 + n;
        }
    }

    private long reachable() {
        Set<Thing> seen = Collections.newSetFromMap(new IdentityHashMap<>());
        Deque<Thing> open = new ArrayDeque<>();
        List<Thing> roots = new ArrayList<>(kept);
        roots.addAll(Arrays.asList(slots));
        for (Thing thing : roots) {
            if (thing != null && seen.add(thing)) {
                open.add(thing);
            }
        }
        long words = 0;
        while (!open.isEmpty()) {
            Thing thing = open.remove();
            words += thing.words();
            for (Thing named : thing.named) {
                if (named != null && seen.add(named)) {
                    open.add(named);
                }
            }
        }
        return words;
    }

    private static void slot(int s) {
        if (s < 0 || s > 31) {
            throw new IllegalArgumentException();
        }
    }

    private Thing at(int s) {
        if (slots[s] == null) {
            throw new IllegalStateException();
        }
        return slots[s];
    }

    private Thing at(int s, int k, boolean reference) {
        Thing thing = at(s);
        if (k < 0 || k >= thing.values.length) {
            throw new IndexOutOfBoundsException();
        }
        if (thing.isReference(k) != reference) {
            throw new UnsupportedOperationException();
        }
        return thing;
    }

    void plain(int k, int words, int mask) {
        boolean wrong = k < 0 || k > 15 || words < 0 || words > 16;
        if (wrong || mask < 0 || mask >= 1 << words || kinds[k] != null) {
            throw new IllegalArgumentException();
        }
        kinds[k] = new Kind();
        kinds[k].words = words;
        kinds[k].mask = mask;
    }

    void row(int k, int elements) {
        if (k < 0 || k > 15 || elements < 0 || elements > 4 || kinds[k] != null) {
            throw new IllegalArgumentException();
        }
        kinds[k] = new Kind();
        kinds[k].isRow = true;
        kinds[k].elements = elements;
    }

    int make(int s, int k, int n) {
        slot(s);
        if (k < 0 || k > 15 || kinds[k] != null && kinds[k].isRow && n < 0) {
            throw new IllegalArgumentException();
        }
        if (kinds[k] == null) {
            throw new IllegalStateException();
        }
        if (reachable() + wordsOf(kinds[k], n) > memory) {
            throw new UnsupportedOperationException();
        }
        Thing thing = new Thing();
        thing.kind = kinds[k];
        thing.values = new long[thing.kind.isRow ? n : thing.kind.words];
        thing.named = new Thing[thing.values.length];
        slots[s] = thing;
        return ++made;
    }

    boolean copy(int s, int t) {
        slot(s);
        slot(t);
        slots[s] = slots[t];
        return slots[t] != null;
    }

    boolean drop(int s) {
        slot(s);
        Thing thing = slots[s];
        slots[s] = null;
        return thing != null;
    }

    boolean same(int s, int t) {
        slot(s);
        slot(t);
        return slots[s] == slots[t];
    }

    long get(int s, int k) {
        slot(s);
        return at(s, k, false).values[k];
    }

    void put(int s, int k, long v) {
        slot(s);
        Thing thing = at(s, k, false);
        int elements = thing.kind.isRow ? thing.kind.elements : MemoryDesk.INTS;
        switch (elements) {
            case MemoryDesk.OCTETS:
                thing.values[k] = (byte) v;
                break;
            case MemoryDesk.HALVES:
                thing.values[k] = (char) v;
                break;
            case MemoryDesk.LONGS:
                thing.values[k] = v;
                break;
            default:
                thing.values[k] = (int) v;
                break;
        }
    }

    boolean link(int s, int k, int t) {
        slot(s);
        slot(t);
        Thing thing = at(s, k, true);
        boolean before = thing.named[k] != null;
        thing.named[k] = slots[t];
        return before;
    }

    boolean follow(int s, int k, int t) {
        slot(s);
        slot(t);
        slots[t] = at(s, k, true).named[k];
        return slots[t] != null;
    }

    int keep(int s) {
        slot(s);
        kept.add(at(s));
        return kept.size();
    }

    int number(int s) {
        slot(s);
        Thing thing = at(s);
        if (thing.number == 0) {
            thing.number = ++numbers;
        }
        return thing.number;
    }

    int size(int s) {
        slot(s);
        return at(s).values.length;
    }

    boolean memory(int words) {
        if (words < 16 || words > 65536) {
            throw new IllegalArgumentException();
        }
        boolean fits = reachable() <= words;
        memory = fits ? words : memory;
        return fits;
    }

    void every(int n) {
        if (n < 0) {
            throw new IllegalArgumentException();
        }
    }

    int collect() {
        return (int) reachable();
    }
}
