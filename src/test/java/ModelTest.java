import java.util.Random;
import java.util.TreeMap;

/**
 * Long mixed runs of calls, each answer held against a plain model that copies whole maps. The
 * seeds are fixed, so a run that fails can be made again.
 */
public final class ModelTest {
    private static final int RUNS = 3000;
    private static final int CALLS = 512;
    private static final int CALLS_PAST_THE_PROMISE = 4000;
    private static final int[] ODD = {
        Integer.MIN_VALUE, Integer.MIN_VALUE + 1, -100, -2, -1, 0, 3, 4, 99, 100, 101,
        Integer.MAX_VALUE - 1, Integer.MAX_VALUE};

    private static int wrong = 0;

    /** The document's words, in the Java library's maps. */
    private static final class Model {
        private TreeMap<Integer, Integer> committed = new TreeMap<>();
        private TreeMap<Integer, Integer> writer = new TreeMap<>();
        private int number = 0;
        private final TreeMap<Integer, TreeMap<Integer, Integer>> readers = new TreeMap<>();
        private final TreeMap<Integer, Integer> numbers = new TreeMap<>();

        private TreeMap<Integer, Integer> view(int who) {
            return who == 3 ? writer : readers.get(who);
        }

        private void closeAll() {
            readers.clear();
            numbers.clear();
        }

        int put(int key, int value) {
            if (key < 0 || key > 99) {
                return -1;
            }
            if (!writer.containsKey(key) && writer.size() == 24) {
                return -2;
            }
            return writer.put(key, value) == null ? 1 : 0;
        }

        int erase(int key) {
            if (key < 0 || key > 99) {
                return -1;
            }
            return writer.remove(key) == null ? 0 : 1;
        }

        int has(int who, int key) {
            return view(who) != null && view(who).containsKey(key) ? 1 : 0;
        }

        int get(int who, int key) {
            return has(who, key) == 1 ? view(who).get(key) : 0;
        }

        int next(int who, int key) {
            if (view(who) == null) {
                return -1;
            }
            Integer above = view(who).higherKey(key);
            return above == null ? -3 : above;
        }

        int size(int who) {
            return view(who) == null ? -1 : view(who).size();
        }

        int commit() {
            committed = new TreeMap<>(writer);
            number++;
            return number;
        }

        int abort() {
            writer = new TreeMap<>(committed);
            return number;
        }

        int open(int r) {
            if (r < 0 || r > 2) {
                return -1;
            }
            readers.put(r, new TreeMap<>(committed));
            numbers.put(r, number);
            return number;
        }

        int close(int r) {
            if (r < 0 || r > 2) {
                return -1;
            }
            numbers.remove(r);
            return readers.remove(r) == null ? 0 : 1;
        }

        int crash(int when) {
            if (when < 0 || when > 2) {
                return -1;
            }
            if (when == 1) {
                commit();
            }
            closeAll();
            return abort();
        }

        int seen(int r) {
            return numbers.getOrDefault(r, -1);
        }
    }

    private static void due(String call, int got, int want) {
        if (got != want) {
            wrong++;
            System.out.println(call + " answered " + got + ", due is " + want);
        }
    }

    private static int odd(Random random) {
        return ODD[random.nextInt(ODD.length)];
    }

    private static int anyKey(Random random, int keys) {
        return random.nextInt(20) == 0 ? odd(random) : random.nextInt(keys) * (99 / (keys - 1));
    }

    private static int anyWho(Random random) {
        return random.nextInt(20) == 0 ? odd(random) : random.nextInt(4);
    }

    private static int anyValue(Random random) {
        return random.nextInt(4) == 0 ? odd(random) : random.nextInt();
    }

    private static void oneCall(String at, CowTreeStore x, Model m, Random random, int keys, int eraseShare) {
        int key = anyKey(random, keys);
        int who = anyWho(random);
        int value = anyValue(random);
        int kind = random.nextInt(100);
        if (kind < 45) {
            if (random.nextInt(100) < eraseShare) {
                due(at + "erase(" + key + ")", x.erase(key), m.erase(key));
            } else {
                due(at + "put(" + key + ", " + value + ")", x.put(key, value), m.put(key, value));
            }
        } else if (kind < 53) {
            due(at + "has(" + who + ", " + key + ")", x.has(who, key) ? 1 : 0, m.has(who, key));
        } else if (kind < 61) {
            due(at + "get(" + who + ", " + key + ")", x.get(who, key), m.get(who, key));
        } else if (kind < 69) {
            due(at + "next(" + who + ", " + key + ")", x.next(who, key), m.next(who, key));
        } else if (kind < 75) {
            due(at + "size(" + who + ")", x.size(who), m.size(who));
        } else if (kind < 81) {
            due(at + "commit()", x.commit(), m.commit());
        } else if (kind < 83) {
            due(at + "abort()", x.abort(), m.abort());
        } else if (kind < 90) {
            due(at + "open(" + who + ")", x.open(who), m.open(who));
        } else if (kind < 93) {
            due(at + "close(" + who + ")", x.close(who), m.close(who));
        } else if (kind < 95) {
            due(at + "crash(" + who + ")", x.crash(who), m.crash(who));
        } else if (kind < 97) {
            due(at + "number()", x.number(), m.number);
        } else {
            due(at + "seen(" + who + ")", x.seen(who), m.seen(who));
        }
    }

    private static void mixedRun(int seed) {
        Random random = new Random(seed);
        CowTreeStore x = new CowTreeStore();
        Model m = new Model();
        int keys = 2 + random.nextInt(99);
        int eraseShare = 5 + random.nextInt(50);
        for (int call = 1; call <= CALLS; call++) {
            oneCall("seed " + seed + ", call " + call + ": ", x, m, random, keys, eraseShare);
        }
    }

    /** Some sixty calls change the states, then all that any of the four can see is read. */
    private static void wholeStateRun(int seed) {
        Random random = new Random(seed);
        CowTreeStore x = new CowTreeStore();
        Model m = new Model();
        String at = "whole state, seed " + seed + ": ";
        for (int call = 1; call <= 28; call++) {
            int key = random.nextInt(100);
            due(at + "put(" + key + ", " + call + ")", x.put(key, call), m.put(key, call));
            int gone = random.nextInt(100);
            due(at + "erase(" + gone + ")", x.erase(gone), m.erase(gone));
            if (call % 7 == 0) {
                int r = call / 7 - 1;
                due(at + "open(" + r + ")", x.open(r), m.open(r));
                due(at + "commit()", x.commit(), m.commit());
            }
        }
        for (int who = 0; who < 4; who++) {
            for (int key = 0; key < 100; key++) {
                due(at + "get(" + who + ", " + key + ")", x.get(who, key), m.get(who, key));
            }
            due(at + "size(" + who + ")", x.size(who), m.size(who));
        }
    }

    /** Answers are free here, but no call may throw. */
    private static void runPastThePromise(int seed) {
        Random random = new Random(seed);
        CowTreeStore x = new CowTreeStore();
        for (int call = 1; call <= CALLS_PAST_THE_PROMISE; call++) {
            int key = anyKey(random, 100);
            int who = anyWho(random);
            x.put(key, call);
            x.erase(anyKey(random, 100));
            x.has(who, key);
            x.get(who, key);
            x.next(who, key);
            x.size(who);
            x.open(who);
            x.seen(who);
            x.number();
            switch (random.nextInt(4)) {
                case 0: x.commit(); break;
                case 1: x.abort(); break;
                case 2: x.close(who); break;
                default: x.crash(who); break;
            }
        }
    }

    public static void main(String[] args) {
        for (int seed = 1; seed <= RUNS && wrong == 0; seed++) {
            mixedRun(seed);
            wholeStateRun(seed);
        }
        for (int seed = 1; seed <= 20; seed++) {
            runPastThePromise(seed);
        }
        System.out.println(wrong == 0 ? "all answers are as due" : wrong + " answers are not as due");
        if (wrong != 0) {
            System.exit(1);
        }
    }
}
