import java.util.HashSet;
import java.util.Set;

/** The sentences of Promises 2, 3, 8, 9 and 15 that name a boundary: what the writer does. */
public final class WriterEdgesTest {

    private static void putInWritersState(Edges edges) {
        edges.edge("Promise 2: gives a key a value in the writer's state (and in no other)", e -> {
            Calls x = e.make();
            x.open(0);
            x.put(0, 5);
            e.due("get(3, 0)", x.get(3, 0), 5);
            e.due("has(0, 0)", x.has(0, 0), false);
            e.due("number()", x.number(), 0);
            x.open(1);
            e.due("has(1, 0), not committed", x.has(1, 0), false);
            e.due("size(3)", x.size(3), 1);
        },
        () -> new Calls() {
            @Override int put(int key, int value) { int answer = super.put(key, value); super.commit(); return answer; }
        },
        () -> new Calls() {
            @Override int put(int key, int value) { return 1; }
        });
    }

    private static void putKeyOutside(Edges edges) {
        edges.edge("Promise 2: key outside 0..99: BAD", e -> {
            Calls x = e.busy();
            for (int key : Edge.NOT_KEYS) {
                e.due("put(" + key + ", 1)", x.put(key, 1), Calls.BAD);
            }
        },
        () -> new Calls() {
            @Override int put(int key, int value) { return key == 100 ? 1 : super.put(key, value); }
        },
        () -> new Calls() {
            @Override int put(int key, int value) { return key == -1 ? 0 : super.put(key, value); }
        },
        () -> new Calls() {
            @Override int put(int key, int value) { return super.put(key == Edge.LEAST ? 0 : key, value); }
        },
        () -> new Calls() {
            @Override int put(int key, int value) { return super.put((byte) key, value); }
        },
        () -> new Calls() {
            @Override int put(int key, int value) { return super.put(Math.min(key, 99), value); }
        });
    }

    private static void putKeyOutsideChangesNothing(Edges edges) {
        edges.edge("Promise 2: key outside 0..99: BAD (and nothing is changed)", e -> {
            Calls x = e.busy();
            for (int key : Edge.NOT_KEYS) {
                x.put(key, 77);
            }
            e.dueSame("after refused puts", x, e.busy());
        },
        () -> new Calls() {
            @Override int put(int key, int value) {
                int answer = super.put(key, value);
                if (answer == BAD) {
                    super.put(key < 0 ? 0 : 99, value);
                }
                return answer;
            }
        },
        () -> new Calls() {
            @Override int put(int key, int value) {
                int answer = super.put(key, value);
                if (answer == BAD) {
                    super.abort();
                }
                return answer;
            }
        });
    }

    private static void putWhenFull(Edges edges) {
        edges.edge("Promise 2: it has none and 24 keys have one: FULL", e -> {
            Calls x = e.full();
            int[] newKeys = {1, 2, 50, 93, 98, 99};
            for (int key : newKeys) {
                e.due("put(" + key + ", 0)", x.put(key, 0), Calls.FULL);
            }
            x.commit();
            for (int key : newKeys) {
                e.due("put(" + key + ", 0), committed", x.put(key, 0), Calls.FULL);
            }
        },
        () -> new Calls() {
            @Override int put(int key, int value) { return isFullFor(key) ? BAD : super.put(key, value); }
        },
        () -> new Calls() {
            @Override int put(int key, int value) { return isFullFor(key) ? 1 : super.put(key, value); }
        },
        () -> new Calls() {
            private int atCommit = 0;
            @Override int commit() { atCommit = super.size(WRITER); return super.commit(); }
            @Override int put(int key, int value) {
                return isFullFor(key) && atCommit == 24 ? 1 : super.put(key, value);
            }
        });
    }

    private static void putWhenFullChangesNothing(Edges edges) {
        edges.edge("Promise 2: it has none and 24 keys have one: FULL (and nothing is changed)", e -> {
            Calls x = e.full();
            x.put(1, 77);
            x.put(99, 77);
            e.due("has(3, 1)", x.has(3, 1), false);
            e.due("get(3, 99)", x.get(3, 99), 0);
            e.due("size(3)", x.size(3), 24);
            for (int key = 0; key < 96; key += 4) {
                e.due("get(3, " + key + ")", x.get(3, key), 10 * key);
            }
            e.dueSame("after put(1, 77) and put(99, 77)", x, e.full());
        },
        () -> new Calls() {
            @Override int put(int key, int value) {
                if (!isFullFor(key)) {
                    return super.put(key, value);
                }
                super.erase(super.next(WRITER, -1));
                super.put(key, value);
                return FULL;
            }
        },
        () -> new Calls() {
            @Override int put(int key, int value) {
                int answer = super.put(key, value);
                if (answer == FULL) {
                    super.commit();
                }
                return answer;
            }
        });
    }

    private static void putOverWhenFull(Edges edges) {
        edges.edge("Promise 2: 24 keys have one, and it has one: not FULL", e -> {
            Calls x = e.full();
            for (int key = 0; key < 96; key += 4) {
                e.due("put(" + key + ", " + -key + ")", x.put(key, -key), 0);
                e.due("get(3, " + key + ")", x.get(3, key), -key);
            }
            e.due("size(3)", x.size(3), 24);
        },
        () -> new Calls() {
            @Override int put(int key, int value) { return size(WRITER) == 24 ? FULL : super.put(key, value); }
        },
        () -> new Calls() {
            @Override int put(int key, int value) { return size(WRITER) == 24 ? 0 : super.put(key, value); }
        });
    }

    private static void putAfterFull(Edges edges) {
        edges.edge("Promise 2: FULL only while 24 keys have one", e -> {
            Calls x = e.full();
            e.due("put(1, 1)", x.put(1, 1), Calls.FULL);
            e.due("erase(92)", x.erase(92), 1);
            e.due("put(1, 1), 23 keys have one", x.put(1, 1), 1);
            e.due("put(92, 1), 24 again", x.put(92, 1), Calls.FULL);
            e.due("erase(2), which has none", x.erase(2), 0);
            e.due("put(92, 1), still 24", x.put(92, 1), Calls.FULL);
        },
        () -> new Calls() {
            private boolean wasFull = false;
            @Override int put(int key, int value) {
                wasFull = wasFull || isFullFor(key);
                return wasFull && !has(WRITER, key) ? FULL : super.put(key, value);
            }
        },
        () -> new Calls() {
            private int erased = 0;
            @Override int erase(int key) { erased++; return super.erase(key); }
            @Override int put(int key, int value) { return isFullFor(key) && erased > 1 ? 1 : super.put(key, value); }
        });
    }

    private static void fullByWritersState(Edges edges) {
        edges.edge("Promise 2: 24 keys have one in the writer's state, not in another", e -> {
            Calls x = e.full();
            x.commit();
            x.open(0);
            x.erase(0);
            e.due("put(1, 1), 24 being committed and seen", x.put(1, 1), 1);
            Calls y = e.make();
            y.commit();
            y.open(0);
            for (int key = 0; key < 24; key++) {
                y.put(key, 1);
            }
            e.due("put(24, 1), none being committed or seen", y.put(24, 1), Calls.FULL);
        },
        () -> new Calls() {
            @Override int put(int key, int value) {
                return size(0) == 24 && !has(0, key) ? FULL : super.put(key, value);
            }
        },
        () -> new Calls() {
            @Override int put(int key, int value) { return isFullFor(key) && size(0) == 0 ? 1 : super.put(key, value); }
        });
    }

    /** Counts the writer's keys by itself, and does not count anew where the state goes back. */
    private static class ForgetfulCount extends Calls {
        private int count = 0;

        @Override int put(int key, int value) {
            if (!has(WRITER, key) && count >= 24) {
                return FULL;
            }
            int answer = super.put(key, value);
            count += answer == 1 ? 1 : 0;
            return answer;
        }

        @Override int erase(int key) {
            int answer = super.erase(key);
            count -= answer == 1 ? 1 : 0;
            return answer;
        }
    }

    private static void fullIsTakenBack(Edges edges) {
        edges.edge("Promise 2: 24 keys have one (counted anew when changes are dropped)", e -> {
            Calls aborted = e.full();
            aborted.abort();
            e.due("put(1, 1) after abort()", aborted.put(1, 1), 1);
            Calls crashed = e.full();
            crashed.crash(0);
            e.due("put(1, 1) after crash(0)", crashed.put(1, 1), 1);
            Calls spoiled = e.full();
            spoiled.crash(2);
            e.due("put(1, 1) after crash(2)", spoiled.put(1, 1), 1);
            Calls kept = e.full();
            kept.crash(1);
            e.due("put(1, 1) after crash(1)", kept.put(1, 1), Calls.FULL);
            kept.erase(0);
            kept.abort();
            e.due("put(1, 1), the erase being dropped", kept.put(1, 1), Calls.FULL);
        },
        ForgetfulCount::new,
        () -> new Calls() {
            @Override int crash(int when) {
                if (when == 1) {
                    super.erase(0);
                }
                return super.crash(when);
            }
        });
    }

    private static void putAnswersOne(Edges edges) {
        edges.edge("Promise 2: answers 1 if it had none", e -> {
            Calls x = e.make();
            e.due("put(0, 0)", x.put(0, 0), 1);
            e.due("put(99, -1)", x.put(99, -1), 1);
            x.commit();
            x.erase(0);
            e.due("put(0, 0), erased since", x.put(0, 0), 1);
            x.put(5, 5);
            x.abort();
            e.due("put(5, 5), its put being dropped", x.put(5, 5), 1);
        },
        () -> new Calls() {
            private final Set<Integer> ever = new HashSet<>();
            @Override int put(int key, int value) { super.put(key, value); return ever.add(key) ? 1 : 0; }
        },
        () -> new Calls() {
            @Override int put(int key, int value) { super.put(key, value); return 0; }
        },
        () -> new Calls() {
            @Override int put(int key, int value) { int answer = super.put(key, value); return value == 0 ? 0 : answer; }
        });
    }

    private static void putAnswersZero(Edges edges) {
        edges.edge("Promise 2: else 0", e -> {
            Calls x = e.make();
            x.put(7, 0);
            e.due("put(7, 0), the value it has", x.put(7, 0), 0);
            e.due("put(7, 1), the value it had being 0", x.put(7, 1), 0);
            e.due("put(7, 2)", x.put(7, 2), 0);
            e.due("get(3, 7)", x.get(3, 7), 2);
            x.commit();
            e.due("put(7, 3), committed", x.put(7, 3), 0);
            e.due("get(3, 7)", x.get(3, 7), 3);
        },
        () -> new Calls() {
            @Override int put(int key, int value) {
                boolean zero = get(WRITER, key) == 0;
                super.put(key, value);
                return zero ? 1 : 0;
            }
        },
        () -> new Calls() {
            @Override int put(int key, int value) {
                boolean same = get(WRITER, key) == value;
                super.put(key, value);
                return same ? 0 : 1;
            }
        },
        () -> new Calls() {
            private final Set<Integer> changed = new HashSet<>();
            @Override int commit() { changed.clear(); return super.commit(); }
            @Override int put(int key, int value) { super.put(key, value); return changed.add(key) ? 1 : 0; }
        },
        () -> new Calls() {
            @Override int put(int key, int value) { return has(WRITER, key) ? 0 : super.put(key, value); }
        });
    }

    private static void eraseKeyOutside(Edges edges) {
        edges.edge("Promise 3: key outside 0..99: BAD", e -> {
            Calls x = e.busy();
            for (int key : Edge.NOT_KEYS) {
                e.due("erase(" + key + ")", x.erase(key), Calls.BAD);
            }
            Calls y = e.make();
            e.due("erase(-1), no key having a value", y.erase(-1), Calls.BAD);
            e.due("erase(100), no key having a value", y.erase(100), Calls.BAD);
        },
        () -> new Calls() {
            @Override int erase(int key) { return key == 100 ? 0 : super.erase(key); }
        },
        () -> new Calls() {
            @Override int erase(int key) { return key == -1 ? 0 : super.erase(key); }
        },
        () -> new Calls() {
            @Override int erase(int key) { return key == Edge.LEAST || key == Edge.GREATEST ? 0 : super.erase(key); }
        },
        () -> new Calls() {
            @Override int erase(int key) { return size(WRITER) == 0 ? 0 : super.erase(key); }
        });
    }

    private static void eraseKeyOutsideChangesNothing(Edges edges) {
        edges.edge("Promise 3: key outside 0..99: BAD (and nothing is changed)", e -> {
            Calls x = e.busy();
            for (int key : Edge.NOT_KEYS) {
                x.erase(key);
            }
            e.dueSame("after refused erases", x, e.busy());
        },
        () -> new Calls() {
            @Override int erase(int key) {
                int answer = super.erase(key);
                if (key > 99) {
                    super.erase(99);
                }
                return answer;
            }
        },
        () -> new Calls() {
            @Override int erase(int key) {
                int answer = super.erase(key);
                if (key == -1) {
                    super.erase(super.next(WRITER, -1));
                }
                return answer;
            }
        });
    }

    private static void eraseAnswersOne(Edges edges) {
        edges.edge("Promise 3: answers 1 if it had one", e -> {
            Calls x = e.make();
            x.put(0, 0);
            x.put(99, 1);
            e.due("erase(0), its value being 0", x.erase(0), 1);
            e.due("has(3, 0)", x.has(3, 0), false);
            x.commit();
            e.due("erase(99), committed", x.erase(99), 1);
            e.due("has(3, 99)", x.has(3, 99), false);
            e.due("size(3)", x.size(3), 0);
            x.abort();
            e.due("erase(99), its erase being dropped", x.erase(99), 1);
        },
        () -> new Calls() {
            @Override int erase(int key) {
                boolean zero = get(WRITER, key) == 0;
                int answer = super.erase(key);
                return zero ? 0 : answer;
            }
        },
        () -> new Calls() {
            @Override int erase(int key) { return has(WRITER, key) ? 1 : super.erase(key); }
        },
        () -> new Calls() {
            private final Set<Integer> ever = new HashSet<>();
            @Override int erase(int key) { int answer = super.erase(key); return ever.add(key) ? answer : 0; }
        });
    }

    private static void eraseAnswersZero(Edges edges) {
        edges.edge("Promise 3: else 0", e -> {
            Calls x = e.make();
            e.due("erase(0), no key having a value", x.erase(0), 0);
            e.due("erase(99), no key having a value", x.erase(99), 0);
            x.put(5, 50);
            x.commit();
            x.open(0);
            e.due("erase(6)", x.erase(6), 0);
            x.erase(5);
            e.due("erase(5) again, a reader having it", x.erase(5), 0);
        },
        () -> new Calls() {
            @Override int erase(int key) { int answer = super.erase(key); return answer == 0 ? NONE : answer; }
        },
        () -> new Calls() {
            @Override int erase(int key) { int answer = super.erase(key); return has(0, key) ? 1 : answer; }
        },
        () -> new Calls() {
            @Override int erase(int key) { return size(WRITER) == 0 ? BAD : super.erase(key); }
        });
    }

    private static void eraseOfNoneChangesNothing(Edges edges) {
        edges.edge("Promise 3: else 0 (and nothing is changed)", e -> {
            Calls x = e.busy();
            for (int key = 20; key < 90; key++) {
                x.erase(key);
            }
            e.dueSame("after erases of keys that have none", x, e.busy());
            Calls y = e.make();
            y.erase(0);
            e.due("size(3)", y.size(3), 0);
        },
        () -> new Calls() {
            private int less = 0;
            @Override int erase(int key) { int answer = super.erase(key); less += answer == 0 ? 1 : 0; return answer; }
            @Override int size(int who) { return super.size(who) - (who == WRITER ? less : 0); }
        },
        () -> new Calls() {
            @Override int erase(int key) {
                int answer = super.erase(key);
                if (answer == 0) {
                    super.put(key, 0);
                }
                return answer;
            }
        });
    }

    private static void eraseInWritersState(Edges edges) {
        edges.edge("Promise 3: takes a key's value away in the writer's state (and in no other)", e -> {
            Calls x = e.full();
            x.commit();
            x.open(0);
            for (int key = 0; key < 96; key += 4) {
                e.due("erase(" + key + ")", x.erase(key), 1);
                e.due("has(3, " + key + ")", x.has(3, key), false);
                e.due("get(0, " + key + ")", x.get(0, key), 10 * key);
            }
            e.due("size(3), the last being erased", x.size(3), 0);
            x.open(1);
            e.due("size(1), not committed", x.size(1), 24);
            e.due("number()", x.number(), 1);
        },
        () -> new Calls() {
            @Override int erase(int key) { int answer = super.erase(key); super.commit(); return answer; }
        },
        () -> new Calls() {
            @Override int erase(int key) { return size(WRITER) == 1 ? 1 : super.erase(key); }
        },
        () -> new Calls() {
            @Override int get(int who, int key) { return has(WRITER, key) ? super.get(who, key) : 0; }
        });
    }

    private static void commitAnswersNextNumber(Edges edges) {
        edges.edge("Promise 8: with the next number, which is answered", e -> {
            Calls x = e.make();
            for (int i = 1; i < 100; i++) {
                x.put(i % 24, i);
                e.due("commit()", x.commit(), i);
                e.due("number()", x.number(), i);
            }
            x.put(1, -1);
            x.abort();
            x.put(1, -2);
            x.crash(0);
            x.put(1, -3);
            x.crash(2);
            e.due("commit() after what was dropped", x.commit(), 100);
        },
        () -> new Calls() {
            @Override int commit() { int old = number(); super.commit(); return old; }
        },
        () -> new Calls() {
            private int dropped = 0;
            @Override int abort() { dropped++; return super.abort(); }
            @Override int commit() { return super.commit() + dropped; }
        },
        () -> new Calls() {
            private int spoiled = 0;
            @Override int crash(int when) { spoiled += when == 2 ? 1 : 0; return super.crash(when); }
            @Override int commit() { return super.commit() + spoiled; }
        },
        () -> new Calls() {
            @Override int number() { return Math.min(super.number(), 98); }
        });
    }

    private static void commitOfNothing(Edges edges) {
        edges.edge("Promise 8: also if nothing was changed", e -> {
            Calls x = e.make();
            e.due("commit() of a new object", x.commit(), 1);
            x.put(1, 10);
            x.commit();
            e.due("commit() once more", x.commit(), 3);
            x.open(0);
            e.due("commit(), a reader being opened", x.commit(), 4);
            x.put(2, 20);
            x.abort();
            e.due("commit() after abort()", x.commit(), 5);
            x.put(2, 20);
            x.erase(2);
            e.due("commit(), the change being undone", x.commit(), 6);
            x.put(1, 10);
            e.due("commit(), the same value being put", x.commit(), 7);
            x.erase(50);
            e.due("commit(), nothing being erased", x.commit(), 8);
            x.put(100, 1);
            e.due("commit(), a put being refused", x.commit(), 9);
            e.due("number()", x.number(), 9);
            e.due("get(3, 1)", x.get(3, 1), 10);
            e.due("size(3)", x.size(3), 1);
        },
        () -> new Calls() {
            private boolean changed = false;
            @Override int put(int key, int value) { changed = true; return super.put(key, value); }
            @Override int erase(int key) { changed = true; return super.erase(key); }
            @Override int commit() { boolean was = changed; changed = false; return was ? super.commit() : number(); }
        },
        () -> new Calls() {
            private boolean aborted = false;
            @Override int abort() { aborted = true; return super.abort(); }
            @Override int commit() { boolean was = aborted; aborted = false; return was ? number() : super.commit(); }
        },
        () -> new Calls() {
            private boolean same = false;
            @Override int put(int key, int value) {
                same = has(WRITER, key) && get(WRITER, key) == value;
                return super.put(key, value);
            }
            @Override int commit() { return same ? number() : super.commit(); }
        },
        () -> new Calls() {
            private int erased = 1;
            @Override int erase(int key) { erased = super.erase(key); return erased; }
            @Override int commit() { return erased == 0 ? number() : super.commit(); }
        },
        () -> new Calls() {
            private int refused = 0;
            @Override int put(int key, int value) { refused = super.put(key, value); return refused; }
            @Override int commit() { return refused < 0 ? number() : super.commit(); }
        },
        () -> new Calls() {
            @Override int commit() { return number() == 0 && size(WRITER) == 0 ? 0 : super.commit(); }
        });
    }

    private static void commitKeepsTheState(Edges edges) {
        edges.edge("Promise 8: the writer's state becomes the committed one", e -> {
            Calls x = e.busy();
            x.commit();
            x.abort();
            e.due("get(3, 1)", x.get(3, 1), 12);
            e.due("has(3, 5)", x.has(3, 5), false);
            e.due("get(3, 99)", x.get(3, 99), 990);
            e.due("open(2)", x.open(2), 3);
            e.due("get(2, 1)", x.get(2, 1), 12);
            e.due("has(2, 5)", x.has(2, 5), false);
            e.due("size(2)", x.size(2), 3);
            e.due("size(0), a reader of an old state", x.size(0), 2);
            e.due("seen(1), a reader of an old state", x.seen(1), 2);
        },
        () -> new Calls() {
            @Override int commit() { return number() == 2 ? super.abort() + 1 : super.commit(); }
        },
        () -> new Calls() {
            @Override int commit() { int answer = super.commit(); super.open(0); return answer; }
        },
        () -> new Calls() {
            @Override int commit() { int answer = super.commit(); super.close(1); return answer; }
        });
    }

    private static void commitOfEmptyAndFull(Edges edges) {
        edges.edge("Promise 8: the writer's state becomes the committed one (with 0 and with 24 keys)", e -> {
            Calls x = e.full();
            x.commit();
            x.open(0);
            for (int key = 0; key < 96; key += 4) {
                x.erase(key);
            }
            e.due("commit(), no key having a value", x.commit(), 2);
            e.due("abort()", x.abort(), 2);
            e.due("size(3)", x.size(3), 0);
            e.due("size(0)", x.size(0), 24);
            x.open(0);
            e.due("size(0)", x.size(0), 0);
        },
        () -> new Calls() {
            @Override int commit() { return size(WRITER) == 0 ? super.abort() + 1 : super.commit(); }
        },
        () -> new Calls() {
            @Override int commit() {
                if (size(WRITER) == 24) {
                    super.erase(92);
                }
                return super.commit();
            }
        });
    }

    private static void abortTakesBack(Edges edges) {
        edges.edge("Promise 9: the writer's state becomes the committed one as it was", e -> {
            Calls x = e.busy();
            x.abort();
            e.due("get(3, 1), changed", x.get(3, 1), 10);
            e.due("get(3, 5), erased", x.get(3, 5), 50);
            e.due("get(3, 7), not touched", x.get(3, 7), 70);
            e.due("has(3, 99), added", x.has(3, 99), false);
            e.due("size(3)", x.size(3), 3);
            Calls y = e.full();
            y.abort();
            e.due("size(3), nothing being committed", y.size(3), 0);
            e.due("next(3, -1)", y.next(3, -1), Calls.NONE);
        },
        () -> new Calls() {
            @Override int abort() { return number(); }
        },
        () -> new Calls() {
            @Override int abort() { int answer = super.abort(); super.erase(5); return answer; }
        },
        () -> new Calls() {
            @Override int abort() {
                int now = get(WRITER, 1);
                int answer = super.abort();
                super.put(1, now);
                return answer;
            }
        },
        () -> new Calls() {
            @Override int abort() { return number() == 0 ? 0 : super.abort(); }
        });
    }

    private static void abortOfNothing(Edges edges) {
        edges.edge("Promise 9: as it was (also if nothing was changed)", e -> {
            Calls x = e.make();
            e.due("abort() of a new object", x.abort(), 0);
            x.put(1, 10);
            x.commit();
            e.due("abort() after commit()", x.abort(), 1);
            e.due("abort() once more", x.abort(), 1);
            e.due("get(3, 1)", x.get(3, 1), 10);
            e.due("number()", x.number(), 1);
        },
        () -> new Calls() {
            private boolean again = false;
            @Override int abort() {
                int answer = super.abort();
                if (again) {
                    super.erase(1);
                }
                again = true;
                return answer;
            }
        },
        () -> new Calls() {
            @Override int abort() { return size(WRITER) == 0 ? BAD : super.abort(); }
        });
    }

    private static void abortAnswersNumber(Edges edges) {
        edges.edge("Promise 9: answers its number", e -> {
            Calls x = e.busy();
            e.due("abort()", x.abort(), 2);
            e.due("number()", x.number(), 2);
            x.put(1, 1);
            e.due("abort()", x.abort(), 2);
            e.due("commit()", x.commit(), 3);
            e.due("abort()", x.abort(), 3);
        },
        () -> new Calls() {
            @Override int abort() { super.abort(); return 0; }
        },
        () -> new Calls() {
            @Override int abort() { super.abort(); return super.commit(); }
        },
        () -> new Calls() {
            @Override int abort() { return super.abort() - 1; }
        });
    }

    private static void abortLeavesReaders(Edges edges) {
        edges.edge("Promise 9: the writer's state (and no reader's)", e -> {
            Calls x = e.busy();
            x.abort();
            e.due("seen(0)", x.seen(0), 1);
            e.due("seen(1)", x.seen(1), 2);
            e.due("seen(2)", x.seen(2), Calls.BAD);
            e.due("size(0)", x.size(0), 2);
            e.due("size(1)", x.size(1), 3);
        },
        () -> new Calls() {
            @Override int abort() { super.close(0); return super.abort(); }
        },
        () -> new Calls() {
            @Override int abort() { super.open(0); return super.abort(); }
        },
        () -> new Calls() {
            @Override int abort() { super.open(2); return super.abort(); }
        });
    }

    private static void badBeforeFull(Edges edges) {
        edges.edge("Promise 15: put: BAD is tested before FULL", e -> {
            Calls x = e.full();
            for (int key : Edge.NOT_KEYS) {
                e.due("put(" + key + ", 1), 24 keys having one", x.put(key, 1), Calls.BAD);
            }
            x.commit();
            for (int key : Edge.NOT_KEYS) {
                e.due("put(" + key + ", 1), 24 keys committed", x.put(key, 1), Calls.BAD);
            }
        },
        () -> new Calls() {
            @Override int put(int key, int value) { return isFullFor(key) ? FULL : super.put(key, value); }
        },
        () -> new Calls() {
            @Override int put(int key, int value) { return isFullFor(key) && key > 99 ? FULL : super.put(key, value); }
        },
        () -> new Calls() {
            @Override int put(int key, int value) { return isFullFor(key) && key < 0 ? FULL : super.put(key, value); }
        });
    }

    public static void main(String[] args) {
        Edges edges = new Edges();
        putInWritersState(edges);
        putKeyOutside(edges);
        putKeyOutsideChangesNothing(edges);
        putWhenFull(edges);
        putWhenFullChangesNothing(edges);
        putOverWhenFull(edges);
        putAfterFull(edges);
        fullByWritersState(edges);
        fullIsTakenBack(edges);
        putAnswersOne(edges);
        putAnswersZero(edges);
        eraseKeyOutside(edges);
        eraseKeyOutsideChangesNothing(edges);
        eraseAnswersOne(edges);
        eraseAnswersZero(edges);
        eraseOfNoneChangesNothing(edges);
        eraseInWritersState(edges);
        commitAnswersNextNumber(edges);
        commitOfNothing(edges);
        commitKeepsTheState(edges);
        commitOfEmptyAndFull(edges);
        abortTakesBack(edges);
        abortOfNothing(edges);
        abortAnswersNumber(edges);
        abortLeavesReaders(edges);
        badBeforeFull(edges);
        edges.end();
    }
}
