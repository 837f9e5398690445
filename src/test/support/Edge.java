import java.util.ArrayList;
import java.util.List;

/** One run of one sentence's test: it makes the objects, and keeps what was not as due. */
final class Edge {
    static final int LEAST = Integer.MIN_VALUE;
    static final int GREATEST = Integer.MAX_VALUE;
    static final int[] NOT_KEYS = {LEAST, LEAST + 1, -100, -2, -1, 100, 101, 127, 128, 256, 1000, GREATEST - 1, GREATEST};
    static final int[] NOT_READERS = {LEAST, LEAST + 1, -3, -2, -1, 3, 4, 5, 256, GREATEST - 1, GREATEST};
    static final int[] NOT_WHO = {LEAST, LEAST + 1, -3, -2, -1, 4, 5, 256, GREATEST - 1, GREATEST};
    static final int[] NOT_WHEN = {LEAST, LEAST + 1, -2, -1, 3, 4, 256, GREATEST - 1, GREATEST};

    interface Maker {
        Calls make();
    }

    private final Maker maker;
    private final List<String> wrong = new ArrayList<>();

    Edge(Maker maker) {
        this.maker = maker;
    }

    synchronized void say(String what) {
        wrong.add(what);
    }

    synchronized List<String> wrong() {
        return new ArrayList<>(wrong);
    }

    void due(String call, int got, int want) {
        if (got != want) {
            say(call + " answered " + got + ", due is " + want);
        }
    }

    void due(String call, boolean got, boolean want) {
        if (got != want) {
            say(call + " answered " + got + ", due is " + want);
        }
    }

    Calls make() {
        return maker.make();
    }

    /** The 24 keys 0, 4, .. 92 in the writer's state, each with its key times 10; none is committed. */
    Calls full() {
        Calls x = make();
        for (int key = 0; key < 96; key += 4) {
            x.put(key, 10 * key);
        }
        return x;
    }

    /**
     * Four views that all differ: reader 0 on state 1 (1 -> 10, 5 -> 50), reader 1 on state 2 (and
     * 7 -> 70), reader 2 closed, the writer having changed 1 -> 12, erased 5 and added 99 -> 990.
     */
    Calls busy() {
        Calls x = make();
        x.put(1, 10);
        x.put(5, 50);
        x.commit();
        x.open(0);
        x.put(7, 70);
        x.commit();
        x.open(1);
        x.put(1, 12);
        x.erase(5);
        x.put(99, 990);
        return x;
    }

    private static void show(Calls x, int who, StringBuilder seen) {
        seen.append(" who ").append(who).append(" size ").append(x.size(who)).append(" seen ").append(x.seen(who));
        int key = x.next(who, -1);
        for (int i = 0; i < 24 && key >= 0; i++) {
            seen.append(' ').append(key).append("->").append(x.get(who, key));
            key = x.next(who, key);
        }
    }

    /** All that can be seen; the committed state is seen last, by dropping the writer's changes. */
    private static String sight(Calls x) {
        StringBuilder seen = new StringBuilder("number ").append(x.number());
        for (int who = 0; who < 4; who++) {
            show(x, who, seen);
        }
        x.abort();
        seen.append(" committed:");
        show(x, 3, seen);
        return seen.toString();
    }

    /** To be asked of x and y last, since it drops the writer's changes. */
    void dueSame(String after, Calls x, Calls y) {
        String got = sight(x);
        String want = sight(y);
        if (!got.equals(want)) {
            say(after + " there is to be seen [" + got + "], due is [" + want + "]");
        }
    }
}
