/** The sentences of 'What it is', 'Terms' and Promise 1 that name a boundary, and rule 7 of LANGUAGE.md. */
public final class LimitsEdgesTest {
    private static final int[] ODD = {
        Edge.LEAST, Edge.LEAST + 1, -101, -100, -99, -10, -4, -3, -2, -1, 0, 1, 2, 3, 4, 5, 9, 10, 11,
        23, 24, 25, 98, 99, 100, 101, 511, 512, 513, 5129, 5130, 5131, Edge.GREATEST - 1, Edge.GREATEST};

    private static void lastOf512Puts(Edges edges) {
        edges.edge("What it is: at most 512 calls (512 puts)", e -> {
            Calls x = e.make();
            for (int call = 1; call < 512; call++) {
                e.due("call " + call + ", put(9, " + call + ")", x.put(9, call), call == 1 ? 1 : 0);
            }
            e.due("call 512, put(8, 0)", x.put(8, 0), 1);
            Calls y = e.make();
            for (int call = 1; call < 512; call++) {
                y.put(call % 24, call);
            }
            e.due("call 512, get(3, 7)", y.get(3, 511 % 24), 511);
        },
        () -> new Calls() {
            private int calls = 0;
            @Override int put(int key, int value) { calls++; return calls > 511 ? FULL : super.put(key, value); }
        },
        () -> new Calls() {
            private int calls = 0;
            @Override int put(int key, int value) { calls++; return calls > 510 ? 0 : super.put(key, value); }
        });
    }

    private static void lastOf512Turns(Edges edges) {
        edges.edge("What it is: at most 512 calls (put and erase in turns)", e -> {
            Calls x = e.make();
            for (int call = 1; call <= 512; call += 2) {
                e.due("call " + call + ", put(99, 1)", x.put(99, 1), 1);
                e.due("call " + (call + 1) + ", erase(99)", x.erase(99), 1);
            }
        },
        () -> new Calls() {
            private int calls = 0;
            @Override int erase(int key) { calls++; return calls > 255 ? 0 : super.erase(key); }
        });
    }

    private static void numberOf512Commits(Edges edges) {
        edges.edge("What it is: at most 512 calls (512 commits)", e -> {
            Calls x = e.make();
            for (int call = 1; call <= 512; call++) {
                e.due("call " + call + ", commit()", x.commit(), call);
            }
        },
        () -> new Calls() {
            @Override int commit() { return super.commit() % 512; }
        },
        () -> new Calls() {
            @Override int commit() { return (byte) super.commit(); }
        });
    }

    private static void oldStateAfterManyChanges(Edges edges) {
        edges.edge("Terms: an open one keeps seeing the state (through 458 changes)", e -> {
            Calls x = e.full();
            x.commit();
            x.open(0);
            for (int i = 0; i < 458; i++) {
                x.put(4 * (i % 24), -i);
            }
            for (int key = 0; key < 96; key += 4) {
                e.due("get(0, " + key + ")", x.get(0, key), 10 * key);
            }
            e.due("seen(0)", x.seen(0), 1);
        },
        () -> new Calls() {
            private int puts = 0;
            @Override int put(int key, int value) { puts++; return super.put(key, value); }
            @Override int get(int who, int key) { return super.get(puts > 450 ? WRITER : who, key); }
        });
    }

    private static void everyKey(Edges edges) {
        edges.edge("Terms: keys, numbers from 0 to 99", e -> {
            Calls x = e.make();
            for (int key = 0; key < 100; key++) {
                e.due("put(" + key + ", 1)", x.put(key, key + 1), 1);
                e.due("get(3, " + key + ")", x.get(3, key), key + 1);
                e.due("next(3, -1)", x.next(3, -1), key);
                e.due("erase(" + key + ")", x.erase(key), 1);
            }
        },
        () -> new Calls() {
            @Override int put(int key, int value) { return key == 0 ? BAD : super.put(key, value); }
        },
        () -> new Calls() {
            @Override int put(int key, int value) { return key == 99 ? BAD : super.put(key, value); }
        },
        () -> new Calls() {
            @Override int get(int who, int key) { return super.get(who, key == 64 ? 0 : key); }
        });
    }

    private static void anyValue(Edges edges) {
        edges.edge("Terms: a value each, any int", e -> {
            Calls x = e.make();
            int[] values = {Edge.LEAST, Edge.LEAST + 1, -65536, -32769, -129, -3, -2, -1, 1, 24, 100, 128, 256,
                32768, 65536, Edge.GREATEST - 1, Edge.GREATEST, 0};
            for (int i = 0; i < values.length; i++) {
                e.due("put(" + 5 * i + ", " + values[i] + ")", x.put(5 * i, values[i]), 1);
            }
            x.commit();
            x.open(0);
            for (int i = 0; i < values.length; i++) {
                e.due("get(3, " + 5 * i + ")", x.get(3, 5 * i), values[i]);
                e.due("get(0, " + 5 * i + ")", x.get(0, 5 * i), values[i]);
                e.due("has(3, " + 5 * i + ")", x.has(3, 5 * i), true);
            }
        },
        () -> new Calls() {
            @Override int put(int key, int value) { return super.put(key, (short) value); }
        },
        () -> new Calls() {
            @Override int put(int key, int value) { return value < 0 ? BAD : super.put(key, value); }
        },
        () -> new Calls() {
            @Override int put(int key, int value) { return super.put(key, value == Edge.LEAST ? 0 : value); }
        },
        () -> new Calls() {
            @Override boolean has(int who, int key) { return super.get(who, key) != 0; }
        });
    }

    private static void twentyFourKeys(Edges edges) {
        edges.edge("Terms: at most 24 keys have one", e -> {
            Calls x = e.make();
            for (int key = 0; key < 24; key++) {
                e.due("put(" + key + ", 1)", x.put(key, 1), 1);
            }
            e.due("put(24, 1)", x.put(24, 1), Calls.FULL);
            e.due("size(3)", x.size(3), 24);
            Calls y = e.make();
            for (int key = 99; key > 75; key--) {
                e.due("put(" + key + ", 1)", y.put(key, 1), 1);
            }
            e.due("put(75, 1)", y.put(75, 1), Calls.FULL);
            e.due("size(3)", y.size(3), 24);
        },
        () -> new Calls() {
            @Override int put(int key, int value) {
                return size(WRITER) == 23 && !has(WRITER, key) ? FULL : super.put(key, value);
            }
        },
        () -> new Calls() {
            @Override int put(int key, int value) { return isFullFor(key) ? 1 : super.put(key, value); }
        });
    }

    private static void twentyFourInEachState(Edges edges) {
        edges.edge("Terms: at most 24 keys have one (in a state, not in all of them)", e -> {
            Calls x = e.make();
            for (int r = 0; r < 4; r++) {
                for (int i = 0; i < 24; i++) {
                    e.due("put(" + (25 * r + i) + ", 0)", x.put(25 * r + i, 0), 1);
                }
                e.due("commit()", x.commit(), r + 1);
                if (r < 3) {
                    x.open(r);
                    for (int i = 0; i < 24; i++) {
                        x.erase(25 * r + i);
                    }
                }
            }
            for (int who = 0; who < 4; who++) {
                e.due("size(" + who + ")", x.size(who), 24);
                e.due("next(" + who + ", -1)", x.next(who, -1), 25 * who);
                e.due("next(" + who + ", ..)", x.next(who, 25 * who + 23), Calls.NONE);
            }
        },
        () -> new Calls() {
            @Override int put(int key, int value) {
                return size(0) == 24 && !has(WRITER, key) ? FULL : super.put(key, value);
            }
        },
        () -> new Calls() {
            @Override int put(int key, int value) {
                return isOpen(0) && isOpen(1) && isOpen(2) ? FULL : super.put(key, value);
            }
        });
    }

    private static void writersState(Edges edges) {
        edges.edge("Terms: the writer's state is the committed one with whatever the writer has changed since", e -> {
            Calls x = e.busy();
            e.due("get(3, 1), changed", x.get(3, 1), 12);
            e.due("has(3, 5), erased", x.has(3, 5), false);
            e.due("get(3, 7), not touched", x.get(3, 7), 70);
            e.due("get(3, 99), added", x.get(3, 99), 990);
            e.due("size(3)", x.size(3), 3);
        },
        () -> new Calls() {
            @Override int get(int who, int key) { return super.get(who == WRITER ? 1 : who, key); }
        },
        () -> new Calls() {
            @Override int commit() {
                int answer = super.commit();
                for (int key = 0; key < 100; key++) {
                    super.erase(key);
                }
                return answer;
            }
        });
    }

    private static void threeReaders(Edges edges) {
        edges.edge("Terms: 3 readers, 0 to 2", e -> {
            Calls x = e.make();
            for (int r = 0; r < 3; r++) {
                x.put(r, r + 10);
                x.commit();
                e.due("open(" + r + ")", x.open(r), r + 1);
            }
            for (int r = 0; r < 3; r++) {
                e.due("seen(" + r + ")", x.seen(r), r + 1);
                e.due("size(" + r + ")", x.size(r), r + 1);
                e.due("get(" + r + ", " + r + ")", x.get(r, r), r + 10);
                e.due("has(" + r + ", " + (r + 1) + ")", x.has(r, r + 1), false);
            }
        },
        () -> new Calls() {
            @Override int open(int r) { return r == 2 ? BAD : super.open(r); }
        },
        () -> new Calls() {
            @Override int open(int r) { return r == 0 ? BAD : super.open(r); }
        },
        () -> new Calls() {
            @Override int open(int r) {
                if (r == 2) {
                    super.open(1);
                }
                return super.open(r);
            }
        });
    }

    private static void readerKeepsSeeing(Edges edges) {
        edges.edge("Terms: an open one keeps seeing the state that was the committed one when it was opened", e -> {
            Calls x = e.make();
            x.put(1, 10);
            x.put(2, 20);
            x.commit();
            x.open(0);
            x.put(1, 11);
            x.erase(2);
            x.put(3, 30);
            x.put(4, 40);
            e.due("get(0, 1), changed", x.get(0, 1), 10);
            x.commit();
            e.due("get(0, 1), committed", x.get(0, 1), 10);
            x.put(1, 12);
            x.abort();
            e.due("get(0, 1), aborted", x.get(0, 1), 10);
            x.open(1);
            x.close(1);
            e.due("get(0, 1)", x.get(0, 1), 10);
            e.due("get(0, 2)", x.get(0, 2), 20);
            e.due("has(0, 3)", x.has(0, 3), false);
            e.due("size(0)", x.size(0), 2);
            e.due("next(0, 1)", x.next(0, 1), 2);
            e.due("next(0, 2)", x.next(0, 2), Calls.NONE);
            e.due("seen(0)", x.seen(0), 1);
        },
        () -> new Calls() {
            @Override int get(int who, int key) { return super.get(isOpen(who) ? WRITER : who, key); }
        },
        () -> new Calls() {
            @Override int commit() {
                int answer = super.commit();
                if (isOpen(0)) {
                    super.open(0);
                }
                return answer;
            }
        },
        () -> new Calls() {
            @Override int size(int who) { return super.size(isOpen(who) ? WRITER : who); }
        },
        () -> new Calls() {
            @Override int next(int who, int key) { return super.next(isOpen(who) ? WRITER : who, key); }
        },
        () -> new Calls() {
            @Override int seen(int r) { return isOpen(r) ? number() : BAD; }
        });
    }

    private static void noKeyInTheBeginning(Edges edges) {
        edges.edge("Promise 1 and Terms: in the beginning no key has a value", e -> {
            Calls x = e.make();
            for (int key = 0; key < 100; key++) {
                e.due("has(3, " + key + ")", x.has(3, key), false);
                e.due("get(3, " + key + ")", x.get(3, key), 0);
            }
            e.due("size(3)", x.size(3), 0);
            e.due("next(3, -1)", x.next(3, -1), Calls.NONE);
            x.open(0);
            e.due("size(0)", x.size(0), 0);
            e.due("next(0, -1)", x.next(0, -1), Calls.NONE);
            e.due("put(0, 0)", x.put(0, 0), 1);
        },
        () -> new Calls() {
            { super.put(0, 0); }
        },
        () -> new Calls() {
            { super.put(99, 1); }
        });
    }

    private static void numberInTheBeginning(Edges edges) {
        edges.edge("Promise 1 and Terms: in the beginning the committed state has the number 0", e -> {
            e.due("number()", e.make().number(), 0);
            e.due("abort()", e.make().abort(), 0);
            e.due("open(2)", e.make().open(2), 0);
            e.due("crash(0)", e.make().crash(0), 0);
            e.due("commit()", e.make().commit(), 1);
        },
        () -> new Calls() {
            { super.commit(); }
        },
        () -> new Calls() {
            @Override int number() { return super.number() + 1; }
        });
    }

    private static void readersInTheBeginning(Edges edges) {
        edges.edge("Promise 1 and Terms: in the beginning all readers are closed", e -> {
            for (int r = 0; r < 3; r++) {
                Calls x = e.make();
                e.due("seen(" + r + ")", x.seen(r), Calls.BAD);
                e.due("size(" + r + ")", x.size(r), Calls.BAD);
                e.due("next(" + r + ", 0)", x.next(r, 0), Calls.BAD);
                e.due("close(" + r + ")", x.close(r), 0);
            }
        },
        () -> new Calls() {
            { super.open(0); }
        },
        () -> new Calls() {
            { super.open(1); }
        },
        () -> new Calls() {
            { super.open(2); }
        });
    }

    private static void objectsApart(Edges edges) {
        Calls[] shared = new Calls[1];
        edges.edge("Promise 1: a new object is new, whatever was done with another one", e -> {
            Calls used = e.make();
            used.put(1, 1);
            used.commit();
            used.open(0);
            Calls x = e.make();
            e.due("number()", x.number(), 0);
            e.due("size(3)", x.size(3), 0);
            e.due("seen(0)", x.seen(0), Calls.BAD);
            x.put(1, 2);
            e.due("get(3, 1) of the used one", used.get(3, 1), 1);
        },
        () -> {
            if (shared[0] == null) {
                shared[0] = new Calls();
            }
            return shared[0];
        });
    }

    private static void callAllWith(Calls x, int a) {
        x.erase(a);
        x.size(a);
        x.open(a);
        x.seen(a);
        for (int b : ODD) {
            x.put(a, b);
            x.has(a, b);
            x.get(a, b);
            x.next(a, b);
        }
        x.close(a);
        x.number();
        x.abort();
        x.commit();
        x.crash(a);
    }

    private static void callAll(Calls x) {
        for (int a : ODD) {
            callAllWith(x, a);
        }
    }

    private static void neverThrows(Edges edges) {
        edges.edge("Rule 7: no call may ever throw or fail to end, for any arguments in any state", e -> {
            callAll(e.make());
            callAll(e.full());
            callAll(e.busy());
            Calls crashed = e.busy();
            crashed.crash(2);
            callAll(crashed);
        },
        () -> new Calls() {
            private final int[] values = new int[100];
            @Override int put(int key, int value) { return super.put(key, value) + (key < 0 ? 0 : values[key]); }
        },
        () -> new Calls() {
            private final int[] nexts = new int[100];
            @Override int next(int who, int key) { return super.next(who, key) + (key < 99 ? 0 : nexts[key + 1]); }
        },
        () -> new Calls() {
            private final int[] opened = new int[3];
            @Override int seen(int r) { return super.seen(r) + opened[r]; }
        },
        () -> new Calls() {
            @Override int crash(int when) { return super.crash(when) + 0 / when; }
        },
        () -> new Calls() {
            @Override int close(int r) {
                while (r > 2 && !Thread.interrupted()) {
                    Thread.onSpinWait();
                }
                return super.close(r);
            }
        });
    }

    /** Answers are free here; that there is one is not. */
    private static void neverThrowsAfter512(Edges edges) {
        edges.edge("Rule 7: no call may ever throw, also after the 512th call", e -> {
            for (int turn = 0; turn < 3; turn++) {
                Calls x = e.make();
                for (int call = 0; call < 3000; call++) {
                    x.put(call % 100, call);
                    if (turn == 1) {
                        x.erase(call % 100);
                    }
                    if (turn == 2) {
                        x.commit();
                        x.open(call % 3);
                    }
                }
                callAll(x);
            }
        },
        () -> new Calls() {
            private final int[] pages = new int[1026];
            private int used = 0;
            @Override int put(int key, int value) { pages[used] = key; used++; return super.put(key, value); }
        },
        () -> new Calls() {
            private final int[] pages = new int[1026];
            @Override int commit() { int answer = super.commit(); pages[answer] = answer; return answer; }
        });
    }

    public static void main(String[] args) {
        Edges edges = new Edges();
        lastOf512Puts(edges);
        lastOf512Turns(edges);
        numberOf512Commits(edges);
        oldStateAfterManyChanges(edges);
        everyKey(edges);
        anyValue(edges);
        twentyFourKeys(edges);
        twentyFourInEachState(edges);
        writersState(edges);
        threeReaders(edges);
        readerKeepsSeeing(edges);
        noKeyInTheBeginning(edges);
        numberInTheBeginning(edges);
        readersInTheBeginning(edges);
        objectsApart(edges);
        neverThrows(edges);
        neverThrowsAfter512(edges);
        edges.end();
    }
}
