/**
 * A map in pages that are never overwritten, with one writer, readers of old states, and crashes.
 *
 * A state is a tree of two levels: a root page names ten leaf pages, and each leaf page holds ten
 * keys. A change writes a new leaf and a new root beside the old ones, so whoever keeps the number
 * of an old root keeps seeing its whole state, and to publish a state is to keep one number.
 */
public final class CowTreeStore {
    public static final int BAD = -1;
    public static final int FULL = -2;
    public static final int NONE = -3;

    private static final int KEYS = 100;
    private static final int MOST_HELD = 24;
    private static final int READERS = 3;
    private static final int WRITER = 3;
    private static final int VIEWS = 4;
    private static final int CLOSED = -1;

    private static final int CRASH_BEFORE = 0;
    private static final int CRASH_AFTER = 1;
    private static final int CRASH_AMID = 2;

    /** Keys in a leaf page, and also leaf pages named by a root page. */
    private static final int FAN = 10;

    /** A call writes at most one leaf and one root, and 512 calls are promised; page 0 is empty. */
    private static final int PAGES = 513;
    private static final int CELLS = 5130;

    // Leaf page p has the cells p * FAN and up here; leaf 0 stays empty for ever.
    private final boolean[] cellHeld = new boolean[CELLS];
    private final int[] cellValue = new int[CELLS];

    // Root page p has the entries p * FAN and up here; root 0 names leaf 0 ten times.
    private final int[] rootLeaf = new int[CELLS];
    private final int[] rootHeld = new int[PAGES];

    // By who: the readers 0 to 2, then the writer.
    private final int[] viewRoot = new int[VIEWS];
    private final int[] readerNumber = new int[READERS];

    private int committedRoot;
    private int committedNumber;
    private int pagesWritten;

    public CowTreeStore() {
        committedRoot = 0;
        committedNumber = 0;
        pagesWritten = 1;
        dropChanges();
        closeReaders();
    }

    public int put(int key, int value) {
        if (!isKey(key)) {
            return BAD;
        }
        boolean had = holds(viewRoot[WRITER], key);
        if (!had && rootHeld[viewRoot[WRITER]] >= MOST_HELD) {
            return FULL;
        }
        if (!hasFreePage()) {
            return FULL;
        }
        writeChange(key, true, value);
        return had ? 0 : 1;
    }

    public int erase(int key) {
        if (!isKey(key)) {
            return BAD;
        }
        boolean had = holds(viewRoot[WRITER], key);
        if (!had || !hasFreePage()) {
            return 0;
        }
        writeChange(key, false, 0);
        return 1;
    }

    public boolean has(int who, int key) {
        return isViewing(who) && isKey(key) && holds(viewRoot[who], key);
    }

    public int get(int who, int key) {
        if (!has(who, key)) {
            return 0;
        }
        return cellValue[cellOf(viewRoot[who], key)];
    }

    public int next(int who, int key) {
        if (!isViewing(who)) {
            return BAD;
        }
        // Comparing, not starting at key + 1, keeps the greatest int from wrapping around.
        for (int k = 0; k < KEYS; k++) {
            if (k > key && holds(viewRoot[who], k)) {
                return k;
            }
        }
        return NONE;
    }

    public int size(int who) {
        if (!isViewing(who)) {
            return BAD;
        }
        return rootHeld[viewRoot[who]];
    }

    public int commit() {
        publish();
        return committedNumber;
    }

    public int abort() {
        dropChanges();
        return committedNumber;
    }

    public int open(int r) {
        if (!isReader(r)) {
            return BAD;
        }
        viewRoot[r] = committedRoot;
        readerNumber[r] = committedNumber;
        return committedNumber;
    }

    public int close(int r) {
        if (!isReader(r)) {
            return BAD;
        }
        boolean wasOpen = isViewing(r);
        viewRoot[r] = CLOSED;
        return wasOpen ? 1 : 0;
    }

    public int crash(int when) {
        if (when != CRASH_BEFORE && when != CRASH_AFTER && when != CRASH_AMID) {
            return BAD;
        }
        // A spoiled last write is as good as none: the committed root it was to replace still stands.
        if (when == CRASH_AFTER) {
            publish();
        }
        dropChanges();
        closeReaders();
        return committedNumber;
    }

    public int number() {
        return committedNumber;
    }

    public int seen(int r) {
        if (!isReader(r) || !isViewing(r)) {
            return BAD;
        }
        return readerNumber[r];
    }

    private static boolean isKey(int key) {
        return key >= 0 && key < KEYS;
    }

    private static boolean isReader(int r) {
        return r >= 0 && r < READERS;
    }

    private boolean isViewing(int who) {
        return who >= 0 && who < VIEWS && viewRoot[who] != CLOSED;
    }

    private void publish() {
        committedRoot = viewRoot[WRITER];
        committedNumber++;
    }

    private void dropChanges() {
        viewRoot[WRITER] = committedRoot;
    }

    private void closeReaders() {
        for (int r = 0; r < READERS; r++) {
            viewRoot[r] = CLOSED;
        }
    }

    private int cellOf(int root, int key) {
        return rootLeaf[root * FAN + key / FAN] * FAN + key % FAN;
    }

    private boolean holds(int root, int key) {
        return cellHeld[cellOf(root, key)];
    }

    /** False only after the 512th call, when answers are free but a call must still not fail. */
    private boolean hasFreePage() {
        return pagesWritten < PAGES;
    }

    /** Moves the writer to new pages; the caller has seen that there is a free one. */
    private void writeChange(int key, boolean held, int value) {
        int oldRoot = viewRoot[WRITER];
        int page = pagesWritten;
        pagesWritten++;
        copyLeaf(rootLeaf[oldRoot * FAN + key / FAN], page);
        copyRoot(oldRoot, page);
        rootLeaf[page * FAN + key / FAN] = page;
        int cell = page * FAN + key % FAN;
        rootHeld[page] += (held ? 1 : 0) - (cellHeld[cell] ? 1 : 0);
        cellHeld[cell] = held;
        cellValue[cell] = value;
        viewRoot[WRITER] = page;
    }

    private void copyLeaf(int from, int to) {
        for (int i = 0; i < FAN; i++) {
            cellHeld[to * FAN + i] = cellHeld[from * FAN + i];
            cellValue[to * FAN + i] = cellValue[from * FAN + i];
        }
    }

    private void copyRoot(int from, int to) {
        for (int i = 0; i < FAN; i++) {
            rootLeaf[to * FAN + i] = rootLeaf[from * FAN + i];
        }
        rootHeld[to] = rootHeld[from];
    }
}
