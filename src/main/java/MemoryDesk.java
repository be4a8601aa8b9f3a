/**
 * A memory for objects of several kinds that point to one another. What can be come to from the
 * slots, or is kept for ever, stays; the rest is gone when room is needed.
 *
 * An object holds a cell only for those of its words or elements that were written: a long row
 * that nobody writes to costs no more than a short one.
 */
public final class MemoryDesk {
    public static final int REFERENCES = 0, OCTETS = 1, HALVES = 2, INTS = 3, LONGS = 4;

    private static final int KINDS = 16;
    private static final int SLOTS = 32;
    private static final int MOST_PLAIN_WORDS = 16;
    private static final int LEAST_MEMORY = 16;
    private static final int MOST_MEMORY = 65536;
    private static final int PLAIN_HEAD = 3;
    private static final int ROW_HEAD = 4;
    private static final int WORD_BITS = 32;
    private static final int LONG_BITS = 64;

    /** The bits of one element, by the constants of the face. */
    private static final int[] ELEMENT_BITS = {32, 8, 16, 32, 64};

    /** What all objects of one kind have in common. */
    private abstract static class Kind {
        /** Whether make may be asked for n. */
        abstract boolean allows(int n);

        abstract int lengthFor(int n);

        /** A long, because the longest row that can be asked for takes more words than an int counts. */
        abstract long wordsFor(int n);

        abstract boolean isReference(int place);

        /** What is left of v in a place of this kind that is no reference. */
        abstract long cut(long v);
    }

    private static final class PlainKind extends Kind {
        final int words;
        final int mask;

        PlainKind(int words, int mask) {
            this.words = words;
            this.mask = mask;
        }

        boolean allows(int n) {
            return true;
        }

        int lengthFor(int n) {
            return words;
        }

        long wordsFor(int n) {
            return PLAIN_HEAD + words;
        }

        boolean isReference(int place) {
            return ((mask >>> place) & 1) != 0;
        }

        long cut(long v) {
            return (int) v;
        }
    }

    private static final class RowKind extends Kind {
        final int elements;
        final int bits;

        RowKind(int elements, int bits) {
            this.elements = elements;
            this.bits = bits;
        }

        boolean allows(int n) {
            return n >= 0;
        }

        int lengthFor(int n) {
            return n;
        }

        long wordsFor(int n) {
            return ROW_HEAD + ((long) n * bits + WORD_BITS - 1) / WORD_BITS;
        }

        boolean isReference(int place) {
            return elements == REFERENCES;
        }

        long cut(long v) {
            int spare = LONG_BITS - bits;
            return elements == HALVES ? v << spare >>> spare : v << spare >> spare;
        }
    }

    /** A word or element that was written: a value, or what a reference names. */
    private static final class Cell {
        final int place;
        final Cell next;
        long value;
        Item named;

        Cell(int place, Cell next) {
            this.place = place;
            this.next = next;
        }
    }

    /** One of the objects in the memory. */
    private static final class Item {
        final Kind kind;
        final int length;
        final int words;
        Cell cells;
        int tag;
        boolean isKept;
        Item nextKept;
        int walkSeen;
        Item nextPending;

        Item(Kind kind, int length, int words) {
            this.kind = kind;
            this.length = length;
            this.words = words;
        }

        /** The cell of a place, or null if the place was never written. */
        Cell find(int place) {
            for (Cell cell = cells; cell != null; cell = cell.next) {
                if (cell.place == place) {
                    return cell;
                }
            }
            return null;
        }

        Cell findOrAdd(int place) {
            Cell found = find(place);
            if (found == null) {
                found = new Cell(place, cells);
                cells = found;
            }
            return found;
        }
    }

    private final Kind[] kinds;
    private final Item[] slots;
    private int limit;
    private int made;
    private int keeps;
    private int tags;
    private int interval;
    private Item firstKept;

    /** The words of what was reachable at the last walk and of all that was made since. */
    private int used;

    /** The number of the newest walk: an item that bears it was come to in that walk. */
    private int walk;

    /** The chain of items that the walk has come to and not yet looked into. */
    private Item pending;

    public MemoryDesk() {
        kinds = new Kind[KINDS];
        slots = new Item[SLOTS];
        limit = MOST_MEMORY;
    }

    public void plain(int k, int words, int mask) throws IllegalArgumentException {
        checkUndefined(k);
        if (words < 0 || words > MOST_PLAIN_WORDS) {
            throw new IllegalArgumentException("words is not 0..16");
        }
        if (mask >>> words != 0) {
            throw new IllegalArgumentException("the mask names words that there are not");
        }
        kinds[k] = new PlainKind(words, mask);
    }

    public void row(int k, int elements) throws IllegalArgumentException {
        checkUndefined(k);
        if (elements < REFERENCES || elements > LONGS) {
            throw new IllegalArgumentException("elements is not 0..4");
        }
        kinds[k] = new RowKind(elements, ELEMENT_BITS[elements]);
    }

    public int make(int s, int k, int n)
            throws IllegalArgumentException, IllegalStateException, UnsupportedOperationException {
        checkSlot(s);
        checkKind(k);
        Kind kind = kinds[k];
        if (kind != null && !kind.allows(n)) {
            throw new IllegalArgumentException("n is below 0");
        }
        if (kind == null) {
            throw new IllegalStateException("the kind is not defined");
        }
        int words = takeRoom(kind.wordsFor(n));
        slots[s] = new Item(kind, kind.lengthFor(n), words);
        made++;
        return made;
    }

    public boolean copy(int s, int t) throws IllegalArgumentException {
        checkSlot(s);
        checkSlot(t);
        slots[s] = slots[t];
        return slots[s] != null;
    }

    public boolean drop(int s) throws IllegalArgumentException {
        checkSlot(s);
        boolean held = slots[s] != null;
        slots[s] = null;
        return held;
    }

    public boolean same(int s, int t) throws IllegalArgumentException {
        checkSlot(s);
        checkSlot(t);
        return slots[s] == slots[t];
    }

    public long get(int s, int k)
            throws IllegalArgumentException, IllegalStateException, IndexOutOfBoundsException,
            UnsupportedOperationException {
        checkSlot(s);
        Cell cell = heldWithPlace(s, k, false).find(k);
        return cell == null ? 0 : cell.value;
    }

    public void put(int s, int k, long v)
            throws IllegalArgumentException, IllegalStateException, IndexOutOfBoundsException,
            UnsupportedOperationException {
        checkSlot(s);
        Item item = heldWithPlace(s, k, false);
        item.findOrAdd(k).value = item.kind.cut(v);
    }

    public boolean link(int s, int k, int t)
            throws IllegalArgumentException, IllegalStateException, IndexOutOfBoundsException,
            UnsupportedOperationException {
        checkSlot(s);
        checkSlot(t);
        Cell cell = heldWithPlace(s, k, true).findOrAdd(k);
        boolean named = cell.named != null;
        cell.named = slots[t];
        return named;
    }

    public boolean follow(int s, int k, int t)
            throws IllegalArgumentException, IllegalStateException, IndexOutOfBoundsException,
            UnsupportedOperationException {
        checkSlot(s);
        checkSlot(t);
        Cell cell = heldWithPlace(s, k, true).find(k);
        slots[t] = cell == null ? null : cell.named;
        return slots[t] != null;
    }

    public int keep(int s) throws IllegalArgumentException, IllegalStateException {
        checkSlot(s);
        Item item = held(s);
        if (!item.isKept) {
            item.isKept = true;
            item.nextKept = firstKept;
            firstKept = item;
        }
        keeps++;
        return keeps;
    }

    public int number(int s) throws IllegalArgumentException, IllegalStateException {
        checkSlot(s);
        Item item = held(s);
        if (item.tag == 0) {
            tags++;
            item.tag = tags;
        }
        return item.tag;
    }

    public int size(int s) throws IllegalArgumentException, IllegalStateException {
        checkSlot(s);
        return held(s).length;
    }

    public boolean memory(int words) throws IllegalArgumentException {
        if (words < LEAST_MEMORY || words > MOST_MEMORY) {
            throw new IllegalArgumentException("words is not 16..65536");
        }
        if (used > words) {
            clearAway();
        }
        if (used > words) {
            return false;
        }
        limit = words;
        return true;
    }

    public void every(int n) throws IllegalArgumentException {
        if (n < 0) {
            throw new IllegalArgumentException("n is below 0");
        }
        interval = n;
    }

    public int collect() {
        clearAway();
        return used;
    }

    private static void checkSlot(int s) {
        if (s < 0 || s >= SLOTS) {
            throw new IllegalArgumentException("the slot is not 0..31");
        }
    }

    private static void checkKind(int k) {
        if (k < 0 || k >= KINDS) {
            throw new IllegalArgumentException("the kind is not 0..15");
        }
    }

    private void checkUndefined(int k) {
        checkKind(k);
        if (kinds[k] != null) {
            throw new IllegalArgumentException("the kind is defined already");
        }
    }

    private Item held(int s) {
        Item item = slots[s];
        if (item == null) {
            throw new IllegalStateException("the slot holds none");
        }
        return item;
    }

    /** What slot s holds, once it is sure that it has place k and that this is a reference or not, as asked. */
    private Item heldWithPlace(int s, int k, boolean reference) {
        Item item = held(s);
        if (k < 0 || k >= item.length) {
            throw new IndexOutOfBoundsException("there is no such word or element");
        }
        if (item.kind.isReference(k) != reference) {
            throw new UnsupportedOperationException("a reference is no value, nor a value a reference");
        }
        return item;
    }

    /** Counts the words of a new object as used: how many they are, which an int holds if there is room. */
    private int takeRoom(long words) {
        boolean isTurn = interval > 0 && (made + 1) % interval == 0;
        if (isTurn || used + words > limit) {
            clearAway();
        }
        if (used + words > limit) {
            throw new UnsupportedOperationException("there is no room");
        }
        used += (int) words;
        return (int) words;
    }

    /**
     * Counts as used what can be come to, and nothing else. The desk has no way to the rest any more,
     * so there is nothing to free. The chain of pending items stands in for recursion, which a long
     * chain of references would drive too deep.
     */
    private void clearAway() {
        walk++;
        for (int s = 0; s < SLOTS; s++) {
            comeTo(slots[s]);
        }
        for (Item item = firstKept; item != null; item = item.nextKept) {
            comeTo(item);
        }
        used = 0;
        // Each item is pending at most once in a walk, so there are never more turns than items made.
        for (int turn = 0; turn < made && pending != null; turn++) {
            Item item = pending;
            pending = item.nextPending;
            item.nextPending = null;
            used += item.words;
            for (Cell cell = item.cells; cell != null; cell = cell.next) {
                comeTo(cell.named);
            }
        }
    }

    private void comeTo(Item item) {
        if (item != null && item.walkSeen != walk) {
            item.walkSeen = walk;
            item.nextPending = pending;
            pending = item;
        }
    }
}
