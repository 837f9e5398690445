/** Promise by promise: ordinary inputs, the edges that the document names, and wrong inputs. */
public final class PromisesTest {
    private static final int BAD = -1;
    private static final int FULL = -2;
    private static final int NONE = -3;
    private static final int WRITER = 3;
    private static final int LEAST = Integer.MIN_VALUE;
    private static final int GREATEST = Integer.MAX_VALUE;
    private static final int[] NOT_KEYS = {LEAST, -100, -1, 100, 101, 1000, GREATEST};
    private static final int[] NOT_READERS = {LEAST, -1, 3, 4, GREATEST};
    private static final int[] NOT_WHO = {LEAST, -1, 4, 5, GREATEST};

    private static int wrong = 0;
    private static String promise = "";

    private static void due(String call, int got, int want) {
        if (got != want) {
            wrong++;
            System.out.println(promise + ": " + call + " answered " + got + ", due is " + want);
        }
    }

    private static void due(String call, boolean got, boolean want) {
        due(call, got ? 1 : 0, want ? 1 : 0);
    }

    /** A writer's state with the 24 keys 0, 4, .. 92, each with its key times 10. */
    private static CowTreeStore full() {
        CowTreeStore x = new CowTreeStore();
        for (int i = 0; i < 24; i++) {
            due("filling put(" + 4 * i + ")", x.put(4 * i, 40 * i), 1);
        }
        return x;
    }

    private static void constants() {
        promise = "constants";
        due("BAD", CowTreeStore.BAD, BAD);
        due("FULL", CowTreeStore.FULL, FULL);
        due("NONE", CowTreeStore.NONE, NONE);
    }

    private static void newObject() {
        promise = "promise 1";
        CowTreeStore x = new CowTreeStore();
        due("number()", x.number(), 0);
        due("size(3)", x.size(WRITER), 0);
        due("next(3, -1)", x.next(WRITER, -1), NONE);
        for (int k = 0; k < 100; k++) {
            due("has(3, " + k + ")", x.has(WRITER, k), false);
        }
        for (int r = 0; r < 3; r++) {
            due("seen(" + r + ")", x.seen(r), BAD);
            due("size(" + r + ")", x.size(r), BAD);
            due("close(" + r + ")", x.close(r), 0);
        }
        due("open(0)", x.open(0), 0);
        due("size(0)", x.size(0), 0);

        CowTreeStore y = new CowTreeStore();
        x.put(1, 1);
        x.commit();
        due("number() of another object", y.number(), 0);
        due("size(3) of another object", y.size(WRITER), 0);
    }

    private static void put() {
        promise = "promise 2";
        CowTreeStore x = new CowTreeStore();
        int[] values = {0, -1, 1, LEAST, GREATEST};
        for (int value : values) {
            x.erase(42);
            due("put(42, " + value + ")", x.put(42, value), 1);
            due("get(3, 42)", x.get(WRITER, 42), value);
            due("has(3, 42)", x.has(WRITER, 42), true);
        }
        due("put(42, 7) again", x.put(42, 7), 0);
        due("get(3, 42)", x.get(WRITER, 42), 7);
        due("put(0, 1)", x.put(0, 1), 1);
        due("put(99, 2)", x.put(99, 2), 1);
        for (int key : NOT_KEYS) {
            due("put(" + key + ", 1)", x.put(key, 1), BAD);
        }
        due("size(3)", x.size(WRITER), 3);
        due("number(), nothing committed", x.number(), 0);
    }

    private static void putWhenFull() {
        promise = "promise 2, full";
        CowTreeStore x = full();
        due("size(3)", x.size(WRITER), 24);
        due("put(1, 5)", x.put(1, 5), FULL);
        due("has(3, 1)", x.has(WRITER, 1), false);
        due("put(99, 5)", x.put(99, 5), FULL);
        due("put(4, 5), a key with a value", x.put(4, 5), 0);
        due("get(3, 4)", x.get(WRITER, 4), 5);
        due("size(3)", x.size(WRITER), 24);
        due("erase(8)", x.erase(8), 1);
        due("put(1, 5)", x.put(1, 5), 1);
        due("put(8, 5)", x.put(8, 5), FULL);
        due("size(3)", x.size(WRITER), 24);
    }

    private static void fullIsOfTheWriter() {
        promise = "promise 2, full by the writer's state";
        CowTreeStore x = full();
        x.commit();
        x.open(0);
        due("erase(0)", x.erase(0), 1);
        due("put(1, 1), the committed state being full", x.put(1, 1), 1);
        due("put(2, 1)", x.put(2, 1), FULL);
        due("abort()", x.abort(), 1);
        due("put(1, 1)", x.put(1, 1), FULL);
        due("put(0, 1)", x.put(0, 1), 0);
        for (int i = 0; i < 24; i++) {
            due("erase(" + 4 * i + ")", x.erase(4 * i), 1);
        }
        due("size(3)", x.size(WRITER), 0);
        due("size(0)", x.size(0), 24);
    }

    private static void erase() {
        promise = "promise 3";
        CowTreeStore x = new CowTreeStore();
        due("erase(0)", x.erase(0), 0);
        x.put(0, 1);
        x.put(50, 2);
        x.put(51, 3);
        x.put(99, 4);
        due("erase(50)", x.erase(50), 1);
        due("erase(50) again", x.erase(50), 0);
        due("has(3, 50)", x.has(WRITER, 50), false);
        due("get(3, 50)", x.get(WRITER, 50), 0);
        due("get(3, 51)", x.get(WRITER, 51), 3);
        due("erase(0)", x.erase(0), 1);
        due("erase(99)", x.erase(99), 1);
        due("size(3)", x.size(WRITER), 1);
        for (int key : NOT_KEYS) {
            due("erase(" + key + ")", x.erase(key), BAD);
        }
        due("size(3)", x.size(WRITER), 1);
        x.put(7, 0);
        due("erase(7), its value being 0", x.erase(7), 1);
    }

    private static void has() {
        promise = "promise 4";
        CowTreeStore x = new CowTreeStore();
        x.put(0, 0);
        x.put(99, 0);
        x.commit();
        x.open(1);
        x.put(5, 0);
        x.erase(0);
        due("has(3, 5)", x.has(WRITER, 5), true);
        due("has(1, 5)", x.has(1, 5), false);
        due("has(3, 0)", x.has(WRITER, 0), false);
        due("has(1, 0)", x.has(1, 0), true);
        due("has(1, 99)", x.has(1, 99), true);
        due("has(0, 0), closed", x.has(0, 0), false);
        due("has(2, 0), closed", x.has(2, 0), false);
        for (int key : NOT_KEYS) {
            due("has(3, " + key + ")", x.has(WRITER, key), false);
            due("has(1, " + key + ")", x.has(1, key), false);
        }
        for (int who : NOT_WHO) {
            due("has(" + who + ", 99)", x.has(who, 99), false);
            due("has(" + who + ", -1)", x.has(who, -1), false);
        }
        x.close(1);
        due("has(1, 99), closed", x.has(1, 99), false);
    }

    private static void get() {
        promise = "promise 5";
        CowTreeStore x = new CowTreeStore();
        x.put(0, -3);
        x.put(99, GREATEST);
        x.commit();
        x.open(2);
        x.put(0, LEAST);
        x.erase(99);
        x.put(98, 6);
        due("get(3, 0)", x.get(WRITER, 0), LEAST);
        due("get(2, 0)", x.get(2, 0), -3);
        due("get(3, 99)", x.get(WRITER, 99), 0);
        due("get(2, 99)", x.get(2, 99), GREATEST);
        due("get(2, 98)", x.get(2, 98), 0);
        due("get(0, 0), closed", x.get(0, 0), 0);
        for (int key : NOT_KEYS) {
            due("get(3, " + key + ")", x.get(WRITER, key), 0);
            due("get(2, " + key + ")", x.get(2, key), 0);
        }
        for (int who : NOT_WHO) {
            due("get(" + who + ", 0)", x.get(who, 0), 0);
        }
        x.close(2);
        due("get(2, 0), closed", x.get(2, 0), 0);
    }

    private static void next() {
        promise = "promise 6";
        CowTreeStore x = new CowTreeStore();
        x.put(0, 0);
        x.put(9, 0);
        x.put(10, 0);
        x.put(99, 0);
        x.commit();
        x.open(0);
        x.erase(9);
        x.put(50, 0);
        int[] keys = {LEAST, -2, -1, 0, 8, 9, 10, 49, 50, 98, 99, 100, GREATEST - 1, GREATEST};
        int[] reader = {0, 0, 0, 9, 9, 10, 99, 99, 99, 99, NONE, NONE, NONE, NONE};
        int[] writer = {0, 0, 0, 10, 10, 10, 50, 50, 99, 99, NONE, NONE, NONE, NONE};
        for (int i = 0; i < keys.length; i++) {
            due("next(0, " + keys[i] + ")", x.next(0, keys[i]), reader[i]);
            due("next(3, " + keys[i] + ")", x.next(WRITER, keys[i]), writer[i]);
            due("next(1, " + keys[i] + "), closed", x.next(1, keys[i]), BAD);
            for (int who : NOT_WHO) {
                due("next(" + who + ", " + keys[i] + ")", x.next(who, keys[i]), BAD);
            }
        }
    }

    private static void size() {
        promise = "promise 7";
        CowTreeStore x = new CowTreeStore();
        x.put(1, 0);
        x.put(1, 1);
        x.put(2, 0);
        due("size(3)", x.size(WRITER), 2);
        x.commit();
        x.open(0);
        x.erase(1);
        x.erase(1);
        due("size(3)", x.size(WRITER), 1);
        due("size(0)", x.size(0), 2);
        due("size(1), closed", x.size(1), BAD);
        for (int who : NOT_WHO) {
            due("size(" + who + ")", x.size(who), BAD);
        }
        x.close(0);
        due("size(0), closed", x.size(0), BAD);
        due("size(3) when full", full().size(WRITER), 24);
    }

    private static void commit() {
        promise = "promise 8";
        CowTreeStore x = new CowTreeStore();
        x.open(0);
        x.put(3, 30);
        due("commit()", x.commit(), 1);
        due("get(3, 3)", x.get(WRITER, 3), 30);
        due("size(0), opened before", x.size(0), 0);
        due("seen(0)", x.seen(0), 0);
        due("commit(), nothing changed", x.commit(), 2);
        due("commit(), nothing changed", x.commit(), 3);
        due("number()", x.number(), 3);
        x.put(3, 31);
        due("abort()", x.abort(), 3);
        due("get(3, 3)", x.get(WRITER, 3), 30);
        due("commit() after abort", x.commit(), 4);
        due("open(1)", x.open(1), 4);
        due("get(1, 3)", x.get(1, 3), 30);
    }

    private static void abort() {
        promise = "promise 9";
        CowTreeStore x = new CowTreeStore();
        due("abort() of a new object", x.abort(), 0);
        x.put(1, 1);
        due("abort()", x.abort(), 0);
        due("size(3)", x.size(WRITER), 0);
        x.put(2, 2);
        x.put(3, 3);
        x.commit();
        x.open(0);
        x.put(2, 20);
        x.erase(3);
        x.put(4, 4);
        due("abort()", x.abort(), 1);
        due("get(3, 2)", x.get(WRITER, 2), 2);
        due("get(3, 3)", x.get(WRITER, 3), 3);
        due("has(3, 4)", x.has(WRITER, 4), false);
        due("size(3)", x.size(WRITER), 2);
        due("seen(0), a reader stays open", x.seen(0), 1);
        due("size(0)", x.size(0), 2);
        due("abort() again", x.abort(), 1);
        due("number()", x.number(), 1);
    }

    private static void open() {
        promise = "promise 10";
        CowTreeStore x = new CowTreeStore();
        x.put(1, 10);
        due("open(0)", x.open(0), 0);
        due("has(0, 1), not committed", x.has(0, 1), false);
        x.commit();
        due("open(1)", x.open(1), 1);
        x.put(1, 11);
        x.commit();
        due("open(2)", x.open(2), 2);
        x.erase(1);
        x.commit();
        due("has(0, 1)", x.has(0, 1), false);
        due("get(1, 1)", x.get(1, 1), 10);
        due("get(2, 1)", x.get(2, 1), 11);
        due("open(1) anew", x.open(1), 3);
        due("has(1, 1)", x.has(1, 1), false);
        due("seen(0)", x.seen(0), 0);
        due("seen(1)", x.seen(1), 3);
        due("seen(2)", x.seen(2), 2);
        for (int r : NOT_READERS) {
            due("open(" + r + ")", x.open(r), BAD);
        }
        x.put(2, 5);
        x.open(0);
        due("get(3, 2), opening leaves the writer", x.get(WRITER, 2), 5);
        due("open(3)", x.open(WRITER), BAD);
        due("get(3, 2)", x.get(WRITER, 2), 5);
    }

    private static void close() {
        promise = "promise 11";
        CowTreeStore x = new CowTreeStore();
        due("close(0), never opened", x.close(0), 0);
        for (int r = 0; r < 3; r++) {
            x.open(r);
        }
        due("close(1)", x.close(1), 1);
        due("close(1) again", x.close(1), 0);
        due("seen(0)", x.seen(0), 0);
        due("seen(1)", x.seen(1), BAD);
        due("seen(2)", x.seen(2), 0);
        x.open(2);
        due("close(2), opened twice", x.close(2), 1);
        due("close(2) again", x.close(2), 0);
        for (int r : NOT_READERS) {
            due("close(" + r + ")", x.close(r), BAD);
        }
        due("size(3), the writer is not closed", x.size(WRITER), 0);
        due("open(1) after close", x.open(1), 0);
        due("close(1)", x.close(1), 1);
    }

    /** Committed 1 -> 10 with number 1, changed since; all readers open. */
    private static CowTreeStore changedWithReaders() {
        CowTreeStore x = new CowTreeStore();
        x.put(1, 10);
        x.commit();
        for (int r = 0; r < 3; r++) {
            x.open(r);
        }
        x.put(1, 11);
        x.put(2, 20);
        return x;
    }

    private static void crash() {
        promise = "promise 12";
        for (int when = 0; when < 3; when++) {
            boolean kept = when == 1;
            CowTreeStore x = changedWithReaders();
            String after = " after crash(" + when + ")";
            due("crash(" + when + ")", x.crash(when), kept ? 2 : 1);
            due("number()" + after, x.number(), kept ? 2 : 1);
            due("get(3, 1)" + after, x.get(WRITER, 1), kept ? 11 : 10);
            due("has(3, 2)" + after, x.has(WRITER, 2), kept);
            due("size(3)" + after, x.size(WRITER), kept ? 2 : 1);
            for (int r = 0; r < 3; r++) {
                due("seen(" + r + ")" + after, x.seen(r), BAD);
                due("has(" + r + ", 1)" + after, x.has(r, 1), false);
                due("close(" + r + ")" + after, x.close(r), 0);
            }
            due("abort()" + after, x.abort(), kept ? 2 : 1);
            due("get(3, 1)" + after, x.get(WRITER, 1), kept ? 11 : 10);
            due("open(0)" + after, x.open(0), kept ? 2 : 1);
            due("get(0, 1)" + after, x.get(0, 1), kept ? 11 : 10);
            due("commit()" + after, x.commit(), kept ? 3 : 2);
        }
    }

    private static void crashWithWrongWhen() {
        promise = "promise 12, wrong when";
        CowTreeStore x = changedWithReaders();
        int[] notWhen = {LEAST, -1, 3, 4, GREATEST};
        for (int when : notWhen) {
            due("crash(" + when + ")", x.crash(when), BAD);
        }
        due("number()", x.number(), 1);
        due("get(3, 1)", x.get(WRITER, 1), 11);
        due("get(3, 2)", x.get(WRITER, 2), 20);
        for (int r = 0; r < 3; r++) {
            due("seen(" + r + ")", x.seen(r), 1);
            due("get(" + r + ", 1)", x.get(r, 1), 10);
        }
    }

    private static void crashOnCrash() {
        promise = "promise 12, one after another";
        CowTreeStore x = new CowTreeStore();
        due("crash(0)", x.crash(0), 0);
        due("crash(2)", x.crash(2), 0);
        due("crash(1), nothing changed", x.crash(1), 1);
        due("crash(1), nothing changed", x.crash(1), 2);
        x.put(1, 1);
        due("crash(2)", x.crash(2), 2);
        x.put(2, 2);
        due("crash(1)", x.crash(1), 3);
        due("has(3, 1)", x.has(WRITER, 1), false);
        due("has(3, 2)", x.has(WRITER, 2), true);
    }

    private static void number() {
        promise = "promise 13";
        CowTreeStore x = new CowTreeStore();
        x.put(1, 1);
        due("number(), changed", x.number(), 0);
        x.commit();
        due("number(), committed", x.number(), 1);
        x.put(1, 2);
        x.abort();
        due("number(), aborted", x.number(), 1);
        x.open(0);
        x.commit();
        x.close(0);
        due("number(), a reader closed", x.number(), 2);
        x.crash(0);
        due("number(), crash(0)", x.number(), 2);
        x.crash(1);
        due("number(), crash(1)", x.number(), 3);
        x.crash(2);
        due("number(), crash(2)", x.number(), 3);
    }

    private static void seen() {
        promise = "promise 14";
        CowTreeStore x = new CowTreeStore();
        x.open(0);
        x.commit();
        x.commit();
        x.open(2);
        x.commit();
        due("seen(0)", x.seen(0), 0);
        due("seen(1), closed", x.seen(1), BAD);
        due("seen(2)", x.seen(2), 2);
        for (int r : NOT_READERS) {
            due("seen(" + r + ")", x.seen(r), BAD);
        }
        x.close(0);
        due("seen(0), closed", x.seen(0), BAD);
        x.open(0);
        due("seen(0), opened anew", x.seen(0), 3);
    }

    private static void orderAndLimits() {
        promise = "promise 15";
        CowTreeStore x = full();
        for (int key : NOT_KEYS) {
            due("put(" + key + ", 1) when full", x.put(key, 1), BAD);
        }
        due("put(99, 1) when full", x.put(99, 1), FULL);
        due("next(0, 99), closed and no such key", x.next(0, 99), BAD);
        due("next(4, 99), another who and no such key", x.next(4, 99), BAD);
    }

    /** 512 calls are promised, whichever they are: the dearest one has to be answered each time. */
    private static void allCallsChange() {
        promise = "512 calls";
        CowTreeStore puts = new CowTreeStore();
        for (int call = 1; call <= 511; call++) {
            due("call " + call + ", put(9, ..)", puts.put(9, call), call == 1 ? 1 : 0);
        }
        due("call 512, get(3, 9)", puts.get(WRITER, 9), 511);

        CowTreeStore turns = new CowTreeStore();
        for (int call = 1; call <= 512; call++) {
            if (call % 2 == 1) {
                due("call " + call + ", put(99, ..)", turns.put(99, call), 1);
            } else {
                due("call " + call + ", erase(99)", turns.erase(99), 1);
            }
        }

        CowTreeStore commits = new CowTreeStore();
        for (int call = 1; call <= 512; call++) {
            due("call " + call + ", commit()", commits.commit(), call);
        }
    }

    public static void main(String[] args) {
        constants();
        newObject();
        put();
        putWhenFull();
        fullIsOfTheWriter();
        erase();
        has();
        get();
        next();
        size();
        commit();
        abort();
        open();
        close();
        crash();
        crashWithWrongWhen();
        crashOnCrash();
        number();
        seen();
        orderAndLimits();
        allCallsChange();
        System.out.println(wrong == 0 ? "all answers are as due" : wrong + " answers are not as due");
        if (wrong != 0) {
            System.exit(1);
        }
    }
}
