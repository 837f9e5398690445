/** The calls of CowTreeStore, each handed on, so that a breakage can stand before one of them. */
class Calls {
    static final int BAD = -1;
    static final int FULL = -2;
    static final int NONE = -3;
    static final int WRITER = 3;

    private final CowTreeStore store = new CowTreeStore();

    int put(int key, int value) {
        return store.put(key, value);
    }

    int erase(int key) {
        return store.erase(key);
    }

    boolean has(int who, int key) {
        return store.has(who, key);
    }

    int get(int who, int key) {
        return store.get(who, key);
    }

    int next(int who, int key) {
        return store.next(who, key);
    }

    int size(int who) {
        return store.size(who);
    }

    int commit() {
        return store.commit();
    }

    int abort() {
        return store.abort();
    }

    int open(int r) {
        return store.open(r);
    }

    int close(int r) {
        return store.close(r);
    }

    int crash(int when) {
        return store.crash(when);
    }

    int number() {
        return store.number();
    }

    int seen(int r) {
        return store.seen(r);
    }

    // What follows is for breakages; it asks the store itself, so that no breakage alters it.

    final boolean isFullFor(int key) {
        return store.size(WRITER) == 24 && !store.has(WRITER, key);
    }

    final boolean isOpen(int r) {
        return store.seen(r) != BAD;
    }

    final boolean isClosedReader(int who) {
        return who >= 0 && who <= 2 && !isOpen(who);
    }
}
