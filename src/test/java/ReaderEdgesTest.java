/** The sentences of Promises 4 to 7, 10, 11 and 14 that name a boundary: what is seen, and by whom. */
public final class ReaderEdgesTest {

    private static void hasKeyOutside(Edges edges) {
        edges.edge("Promise 4: false for key outside 0..99", e -> {
            Calls x = e.busy();
            x.put(0, 1);
            x.commit();
            x.open(2);
            for (int key : Edge.NOT_KEYS) {
                e.due("has(3, " + key + ")", x.has(3, key), false);
                e.due("has(2, " + key + ")", x.has(2, key), false);
            }
        },
        () -> new Calls() {
            @Override boolean has(int who, int key) { return super.has(who, Math.floorMod(key, 100)); }
        },
        () -> new Calls() {
            @Override boolean has(int who, int key) { return super.has(who, Math.min(key, 99)); }
        },
        () -> new Calls() {
            @Override boolean has(int who, int key) { return super.has(who, Math.max(key, 0)); }
        },
        () -> new Calls() {
            @Override boolean has(int who, int key) { return super.has(who, key == 100 && who == 2 ? 99 : key); }
        });
    }

    private static void hasAnotherWho(Edges edges) {
        edges.edge("Promise 4: false for another who", e -> {
            Calls x = e.busy();
            x.open(2);
            for (int who : Edge.NOT_WHO) {
                for (int key = -1; key <= 7; key++) {
                    e.due("has(" + who + ", " + key + ")", x.has(who, key), false);
                }
            }
        },
        () -> new Calls() {
            @Override boolean has(int who, int key) { return super.has(who == 4 ? WRITER : who, key); }
        },
        () -> new Calls() {
            @Override boolean has(int who, int key) { return super.has(who == -1 ? 0 : who, key); }
        },
        () -> new Calls() {
            @Override boolean has(int who, int key) { return super.has(who & 3, key); }
        });
    }

    private static void hasClosedReader(Edges edges) {
        edges.edge("Promise 4: false for a closed reader", e -> {
            for (int r = 0; r < 3; r++) {
                Calls x = e.make();
                x.put(5, 50);
                x.commit();
                e.due("has(" + r + ", 5), never opened", x.has(r, 5), false);
                x.open(r);
                e.due("has(" + r + ", 5), opened", x.has(r, 5), true);
                x.close(r);
                e.due("has(" + r + ", 5), closed", x.has(r, 5), false);
                x.open(r);
                x.crash(1);
                e.due("has(" + r + ", 5), crashed", x.has(r, 5), false);
            }
        },
        () -> new Calls() {
            @Override boolean has(int who, int key) { return super.has(isClosedReader(who) ? WRITER : who, key); }
        },
        () -> new Calls() {
            private boolean closed = false;
            @Override int close(int r) { closed = true; return super.close(r); }
            @Override boolean has(int who, int key) { return super.has(closed && who < 3 ? WRITER : who, key); }
        },
        () -> new Calls() {
            private boolean crashed = false;
            @Override int crash(int when) { crashed = true; return super.crash(when); }
            @Override boolean has(int who, int key) { return super.has(crashed && who < 3 ? WRITER : who, key); }
        });
    }

    private static void hasFirstAndLastKey(Edges edges) {
        edges.edge("Promise 4: whether a key has a value for who (0 and 99, the value 0)", e -> {
            Calls x = e.make();
            x.put(0, 0);
            x.put(99, 0);
            x.commit();
            x.open(0);
            for (int who = 0; who < 4; who += 3) {
                e.due("has(" + who + ", 0)", x.has(who, 0), true);
                e.due("has(" + who + ", 1)", x.has(who, 1), false);
                e.due("has(" + who + ", 98)", x.has(who, 98), false);
                e.due("has(" + who + ", 99)", x.has(who, 99), true);
            }
        },
        () -> new Calls() {
            @Override boolean has(int who, int key) { return super.has(who, key) && super.get(who, key) != 0; }
        },
        () -> new Calls() {
            @Override boolean has(int who, int key) { return key > 0 && super.has(who, key); }
        },
        () -> new Calls() {
            @Override boolean has(int who, int key) { return key < 99 && super.has(who, key); }
        });
    }

    private static void hasByWho(Edges edges) {
        edges.edge("Promise 4: for who: the writer (3) or a reader (0 to 2)", e -> {
            Calls x = e.busy();
            e.due("has(0, 5)", x.has(0, 5), true);
            e.due("has(0, 7)", x.has(0, 7), false);
            e.due("has(1, 7)", x.has(1, 7), true);
            e.due("has(1, 99)", x.has(1, 99), false);
            e.due("has(3, 99)", x.has(3, 99), true);
            e.due("has(3, 5)", x.has(3, 5), false);
        },
        () -> new Calls() {
            @Override boolean has(int who, int key) { return super.has(who == 0 ? 1 : who, key); }
        },
        () -> new Calls() {
            @Override boolean has(int who, int key) { return super.has(who == WRITER ? 1 : who, key); }
        },
        () -> new Calls() {
            @Override boolean has(int who, int key) { return super.has(who == 1 ? WRITER : who, key); }
        });
    }

    private static void getWithoutValue(Edges edges) {
        edges.edge("Promise 5: 0 where has answers false (the key has none)", e -> {
            Calls x = e.busy();
            e.due("get(3, 6), never put", x.get(3, 6), 0);
            e.due("get(3, 5), erased", x.get(3, 5), 0);
            e.due("get(1, 99), put since", x.get(1, 99), 0);
            x.put(8, 80);
            x.abort();
            e.due("get(3, 8), its put being dropped", x.get(3, 8), 0);
        },
        () -> new Calls() {
            private int last = 0;
            @Override int put(int key, int value) { last = value; return super.put(key, value); }
            @Override int get(int who, int key) { return has(who, key) ? super.get(who, key) : last; }
        },
        () -> new Calls() {
            @Override int get(int who, int key) { return has(who, key) ? super.get(who, key) : NONE; }
        },
        () -> new Calls() {
            private final int[] values = new int[100];
            @Override int put(int key, int value) { values[key] = value; return super.put(key, value); }
            @Override int get(int who, int key) { return has(who, key) ? super.get(who, key) : values[key]; }
        });
    }

    private static void getKeyOutside(Edges edges) {
        edges.edge("Promise 5: 0 where has answers false (key outside 0..99)", e -> {
            Calls x = e.busy();
            x.put(0, 1);
            for (int key : Edge.NOT_KEYS) {
                e.due("get(3, " + key + ")", x.get(3, key), 0);
                e.due("get(0, " + key + ")", x.get(0, key), 0);
            }
        },
        () -> new Calls() {
            @Override int get(int who, int key) { return key == 100 ? BAD : super.get(who, key); }
        },
        () -> new Calls() {
            @Override int get(int who, int key) { return super.get(who, Math.max(key, 0)); }
        },
        () -> new Calls() {
            @Override int get(int who, int key) { return super.get(who, Math.min(key, 99)); }
        });
    }

    private static void getAnotherWho(Edges edges) {
        edges.edge("Promise 5: 0 where has answers false (another who)", e -> {
            Calls x = e.busy();
            x.open(2);
            for (int who : Edge.NOT_WHO) {
                e.due("get(" + who + ", 1)", x.get(who, 1), 0);
                e.due("get(" + who + ", -1)", x.get(who, -1), 0);
            }
        },
        () -> new Calls() {
            @Override int get(int who, int key) { return who == 4 ? BAD : super.get(who, key); }
        },
        () -> new Calls() {
            @Override int get(int who, int key) { return super.get(who == -1 ? 0 : who, key); }
        },
        () -> new Calls() {
            @Override int get(int who, int key) { return super.get(who & 3, key); }
        });
    }

    private static void getClosedReader(Edges edges) {
        edges.edge("Promise 5: 0 where has answers false (a closed reader)", e -> {
            for (int r = 0; r < 3; r++) {
                Calls x = e.make();
                x.put(5, 50);
                x.commit();
                e.due("get(" + r + ", 5), never opened", x.get(r, 5), 0);
                x.open(r);
                e.due("get(" + r + ", 5), opened", x.get(r, 5), 50);
                x.close(r);
                e.due("get(" + r + ", 5), closed", x.get(r, 5), 0);
                x.open(r);
                x.crash(0);
                e.due("get(" + r + ", 5), crashed", x.get(r, 5), 0);
            }
        },
        () -> new Calls() {
            @Override int get(int who, int key) { return super.get(isClosedReader(who) ? WRITER : who, key); }
        },
        () -> new Calls() {
            @Override int get(int who, int key) { return isClosedReader(who) ? BAD : super.get(who, key); }
        },
        () -> new Calls() {
            private boolean crashed = false;
            @Override int crash(int when) { crashed = true; return super.crash(when); }
            @Override int get(int who, int key) { return super.get(crashed && who < 3 ? WRITER : who, key); }
        });
    }

    private static void nextIsAbove(Edges edges) {
        edges.edge("Promise 6: the smallest key above key", e -> {
            Calls x = e.make();
            int[] put = {50, 0, 99, 10, 9, 49};
            for (int key : put) {
                x.put(key, -key);
            }
            x.commit();
            x.open(0);
            int[] sorted = {0, 9, 10, 49, 50, 99};
            for (int who = 0; who < 4; who += 3) {
                for (int key = -1; key < 99; key++) {
                    int due = 0;
                    while (sorted[due] <= key) {
                        due++;
                    }
                    e.due("next(" + who + ", " + key + ")", x.next(who, key), sorted[due]);
                }
            }
        },
        () -> new Calls() {
            @Override int next(int who, int key) { return has(who, key) ? key : super.next(who, key); }
        },
        () -> new Calls() {
            @Override int next(int who, int key) { return super.next(who, super.next(who, key)); }
        },
        () -> new Calls() {
            @Override int next(int who, int key) { return super.next(who, key < 0 ? 0 : key); }
        },
        () -> new Calls() {
            @Override int next(int who, int key) { return key == 98 ? NONE : super.next(who, key); }
        },
        () -> new Calls() {
            @Override int next(int who, int key) { return key < 50 && has(who, 50) ? 50 : super.next(who, key); }
        });
    }

    private static void nextOfAnyInt(Edges edges) {
        edges.edge("Promise 6: key (any int)", e -> {
            Calls x = e.make();
            x.put(0, 1);
            x.put(99, 1);
            x.commit();
            x.open(0);
            int[] below = {Edge.LEAST, Edge.LEAST + 1, -65536, -1000, -256, -100, -99, -3, -2, -1};
            int[] above = {99, 100, 101, 127, 128, 199, 256, 1000, 65535, 65536, Edge.GREATEST - 1, Edge.GREATEST};
            for (int who = 0; who < 4; who += 3) {
                for (int key : below) {
                    e.due("next(" + who + ", " + key + ")", x.next(who, key), 0);
                }
                for (int key : above) {
                    e.due("next(" + who + ", " + key + ")", x.next(who, key), Calls.NONE);
                }
            }
        },
        () -> new Calls() {
            @Override int next(int who, int key) { return super.next(who, key == Edge.GREATEST ? Edge.LEAST : key); }
        },
        () -> new Calls() {
            @Override int next(int who, int key) { return key < -1 ? BAD : super.next(who, key); }
        },
        () -> new Calls() {
            @Override int next(int who, int key) { return key > 99 ? BAD : super.next(who, key); }
        },
        () -> new Calls() {
            @Override int next(int who, int key) { return super.next(who, Math.abs(key)); }
        },
        () -> new Calls() {
            @Override int next(int who, int key) { return super.next(who, key == 100 ? -1 : key); }
        },
        () -> new Calls() {
            @Override int next(int who, int key) { return super.next(who, (short) key); }
        });
    }

    private static void nextNone(Edges edges) {
        edges.edge("Promise 6: there is no such key: NONE", e -> {
            Calls x = e.make();
            e.due("next(3, -1), no key having a value", x.next(3, -1), Calls.NONE);
            x.open(0);
            x.put(7, 1);
            e.due("next(0, -1), none for the reader", x.next(0, -1), Calls.NONE);
            e.due("next(3, 6)", x.next(3, 6), 7);
            e.due("next(3, 7), the greatest", x.next(3, 7), Calls.NONE);
            e.due("next(3, 8)", x.next(3, 8), Calls.NONE);
            x.erase(7);
            e.due("next(3, 6), erased", x.next(3, 6), Calls.NONE);
        },
        () -> new Calls() {
            @Override int next(int who, int key) { int answer = super.next(who, key); return answer == NONE ? BAD : answer; }
        },
        () -> new Calls() {
            @Override int next(int who, int key) { int answer = super.next(who, key); return answer == NONE ? 100 : answer; }
        },
        () -> new Calls() {
            @Override int next(int who, int key) { return size(who) == 0 ? BAD : super.next(who, key); }
        },
        () -> new Calls() {
            @Override int next(int who, int key) { return key == 7 ? super.next(who, -1) : super.next(who, key); }
        },
        () -> new Calls() {
            @Override int next(int who, int key) { return super.next(isOpen(who) ? WRITER : who, key); }
        });
    }

    private static void nextAnotherWho(Edges edges) {
        edges.edge("Promise 6: another who: BAD", e -> {
            Calls x = e.busy();
            x.open(2);
            for (int who : Edge.NOT_WHO) {
                e.due("next(" + who + ", -1)", x.next(who, -1), Calls.BAD);
                e.due("next(" + who + ", 0)", x.next(who, 0), Calls.BAD);
            }
        },
        () -> new Calls() {
            @Override int next(int who, int key) { return super.next(who == 4 ? WRITER : who, key); }
        },
        () -> new Calls() {
            @Override int next(int who, int key) { return who == -1 ? NONE : super.next(who, key); }
        },
        () -> new Calls() {
            @Override int next(int who, int key) { return super.next(who & 3, key); }
        });
    }

    private static void nextClosedReader(Edges edges) {
        edges.edge("Promise 6: a closed reader: BAD", e -> {
            for (int r = 0; r < 3; r++) {
                Calls x = e.make();
                x.put(5, 50);
                x.commit();
                e.due("next(" + r + ", 0), never opened", x.next(r, 0), Calls.BAD);
                x.open(r);
                e.due("next(" + r + ", 0), opened", x.next(r, 0), 5);
                x.close(r);
                e.due("next(" + r + ", 0), closed", x.next(r, 0), Calls.BAD);
                x.open(r);
                x.crash(2);
                e.due("next(" + r + ", 0), crashed", x.next(r, 0), Calls.BAD);
            }
        },
        () -> new Calls() {
            @Override int next(int who, int key) { return isClosedReader(who) ? NONE : super.next(who, key); }
        },
        () -> new Calls() {
            private boolean crashed = false;
            @Override int crash(int when) { crashed = true; return super.crash(when); }
            @Override int next(int who, int key) { return super.next(crashed && who < 3 ? WRITER : who, key); }
        });
    }

    private static void nextBadBeforeNone(Edges edges) {
        edges.edge("Promise 6: tested in this order: BAD, NONE", e -> {
            int[] keys = {-1, 0, 98, 99, 100, Edge.GREATEST};
            Calls empty = e.make();
            Calls x = e.busy();
            for (int key : keys) {
                e.due("next(2, " + key + "), closed, nothing there", empty.next(2, key), Calls.BAD);
                e.due("next(4, " + key + "), nothing there", empty.next(4, key), Calls.BAD);
                e.due("next(2, " + key + "), closed", x.next(2, key), Calls.BAD);
                e.due("next(-1, " + key + ")", x.next(-1, key), Calls.BAD);
                e.due("next(4, " + key + ")", x.next(4, key), Calls.BAD);
            }
        },
        () -> new Calls() {
            @Override int next(int who, int key) { return key >= 99 ? NONE : super.next(who, key); }
        },
        () -> new Calls() {
            @Override int next(int who, int key) { return size(WRITER) == 0 ? NONE : super.next(who, key); }
        },
        () -> new Calls() {
            @Override int next(int who, int key) { return who == 2 && key > 99 ? NONE : super.next(who, key); }
        });
    }

    private static void sizeFromEmptyToFull(Edges edges) {
        edges.edge("Promise 7: the number of keys that have a value for who (from 0 to 24)", e -> {
            Calls x = e.make();
            x.open(0);
            e.due("size(3)", x.size(3), 0);
            for (int key = 0; key < 24; key++) {
                x.put(4 * key, 0);
                e.due("size(3)", x.size(3), key + 1);
            }
            x.put(0, 1);
            x.put(1, 1);
            e.due("size(3), one put over and one refused", x.size(3), 24);
            e.due("size(0)", x.size(0), 0);
            x.commit();
            x.open(0);
            for (int key = 0; key < 24; key++) {
                x.erase(4 * key);
                x.erase(4 * key);
                e.due("size(3)", x.size(3), 23 - key);
            }
            e.due("size(0)", x.size(0), 24);
        },
        () -> new Calls() {
            private int puts = 0;
            @Override int put(int key, int value) { puts++; return super.put(key, value); }
            @Override int size(int who) { return who == WRITER && puts > 24 ? puts : super.size(who); }
        },
        () -> new Calls() {
            @Override int size(int who) { return super.size(isOpen(who) ? WRITER : who); }
        },
        () -> new Calls() {
            @Override int size(int who) { int answer = super.size(who); return answer == 0 ? NONE : answer; }
        },
        () -> new Calls() {
            @Override int size(int who) { int answer = super.size(who); return answer == 24 ? FULL : answer; }
        });
    }

    private static void sizeAnotherWho(Edges edges) {
        edges.edge("Promise 7: BAD for another who", e -> {
            Calls x = e.busy();
            x.open(2);
            for (int who : Edge.NOT_WHO) {
                e.due("size(" + who + ")", x.size(who), Calls.BAD);
            }
        },
        () -> new Calls() {
            @Override int size(int who) { return super.size(who == 4 ? WRITER : who); }
        },
        () -> new Calls() {
            @Override int size(int who) { return who == -1 ? 0 : super.size(who); }
        },
        () -> new Calls() {
            @Override int size(int who) { return super.size(who & 3); }
        });
    }

    private static void sizeClosedReader(Edges edges) {
        edges.edge("Promise 7: BAD for a closed reader", e -> {
            for (int r = 0; r < 3; r++) {
                Calls x = e.make();
                x.put(5, 50);
                x.commit();
                e.due("size(" + r + "), never opened", x.size(r), Calls.BAD);
                x.open(r);
                e.due("size(" + r + "), opened", x.size(r), 1);
                x.close(r);
                e.due("size(" + r + "), closed", x.size(r), Calls.BAD);
                x.open(r);
                x.crash(1);
                e.due("size(" + r + "), crashed", x.size(r), Calls.BAD);
            }
        },
        () -> new Calls() {
            @Override int size(int who) { return isClosedReader(who) ? 0 : super.size(who); }
        },
        () -> new Calls() {
            private boolean closed = false;
            @Override int close(int r) { closed = true; return super.close(r); }
            @Override int size(int who) { return super.size(closed && isClosedReader(who) ? WRITER : who); }
        });
    }

    private static void openOnCommitted(Edges edges) {
        edges.edge("Promise 10: opens a reader on the committed state (not the writer's)", e -> {
            for (int r = 0; r < 3; r++) {
                Calls x = e.busy();
                x.open(r);
                e.due("get(" + r + ", 1)", x.get(r, 1), 10);
                e.due("get(" + r + ", 5)", x.get(r, 5), 50);
                e.due("has(" + r + ", 99)", x.has(r, 99), false);
                e.due("size(" + r + ")", x.size(r), 3);
                e.due("get(3, 1), the writer's changes stay", x.get(3, 1), 12);
                e.due("number()", x.number(), 2);
            }
            Calls empty = e.make();
            empty.put(1, 1);
            empty.open(0);
            e.due("size(0), nothing being committed", empty.size(0), 0);
        },
        () -> new Calls() {
            @Override int get(int who, int key) { return super.get(isOpen(who) ? WRITER : who, key); }
        },
        () -> new Calls() {
            @Override int open(int r) { super.commit(); return super.open(r); }
        },
        () -> new Calls() {
            @Override int open(int r) { super.abort(); return super.open(r); }
        },
        () -> new Calls() {
            @Override int size(int who) { return isOpen(who) && number() == 0 ? super.size(WRITER) : super.size(who); }
        });
    }

    private static void openAnew(Edges edges) {
        edges.edge("Promise 10: an open one is opened anew", e -> {
            for (int r = 0; r < 2; r++) {
                Calls x = e.busy();
                x.commit();
                e.due("open(" + r + ")", x.open(r), 3);
                e.due("seen(" + r + ")", x.seen(r), 3);
                e.due("get(" + r + ", 1)", x.get(r, 1), 12);
                e.due("has(" + r + ", 5)", x.has(r, 5), false);
                e.due("seen of the other", x.seen(1 - r), 2 - r);
                e.due("open(" + r + ") once more", x.open(r), 3);
                e.due("close(" + r + ")", x.close(r), 1);
                e.due("close(" + r + ") again", x.close(r), 0);
            }
        },
        () -> new Calls() {
            @Override int open(int r) { return isOpen(r) ? BAD : super.open(r); }
        },
        () -> new Calls() {
            @Override int open(int r) { return isOpen(r) ? super.seen(r) : super.open(r); }
        },
        () -> new Calls() {
            @Override int open(int r) { return isOpen(r) ? number() : super.open(r); }
        },
        () -> new Calls() {
            private int opens = 0;
            @Override int open(int r) { opens++; return super.open(r); }
            @Override int close(int r) {
                opens--;
                return opens > 0 ? 1 : super.close(r);
            }
        },
        () -> new Calls() {
            @Override int open(int r) { return isOpen(r) ? super.open(1 - r) : super.open(r); }
        });
    }

    private static void openOutside(Edges edges) {
        edges.edge("Promise 10: r outside 0..2: BAD", e -> {
            Calls x = e.busy();
            for (int r : Edge.NOT_READERS) {
                e.due("open(" + r + ")", x.open(r), Calls.BAD);
            }
        },
        () -> new Calls() {
            @Override int open(int r) { return r == 3 ? number() : super.open(r); }
        },
        () -> new Calls() {
            @Override int open(int r) { return r == -1 ? 0 : super.open(r); }
        },
        () -> new Calls() {
            @Override int open(int r) { return super.open((byte) r); }
        });
    }

    private static void openOutsideChangesNothing(Edges edges) {
        edges.edge("Promise 10: r outside 0..2: BAD (and nothing is changed)", e -> {
            Calls x = e.busy();
            for (int r : Edge.NOT_READERS) {
                x.open(r);
            }
            e.dueSame("after refused opens", x, e.busy());
        },
        () -> new Calls() {
            @Override int open(int r) {
                if (r == 3) {
                    super.abort();
                }
                return super.open(r);
            }
        },
        () -> new Calls() {
            @Override int open(int r) {
                if (r < 0) {
                    super.open(0);
                }
                return super.open(r);
            }
        },
        () -> new Calls() {
            @Override int open(int r) {
                if (r > 2) {
                    super.open(2);
                }
                return super.open(r);
            }
        });
    }

    private static void openAnswersNumber(Edges edges) {
        edges.edge("Promise 10: else answers the state's number", e -> {
            Calls x = e.make();
            e.due("open(0), state 0", x.open(0), 0);
            x.put(1, 1);
            e.due("open(1), state 0 still", x.open(1), 0);
            x.commit();
            e.due("open(2)", x.open(2), 1);
            x.crash(1);
            e.due("open(0) after crash(1)", x.open(0), 2);
            x.crash(2);
            e.due("open(1) after crash(2)", x.open(1), 2);
            x.abort();
            e.due("open(2) after abort()", x.open(2), 2);
        },
        () -> new Calls() {
            @Override int open(int r) { int answer = super.open(r); return answer >= 0 ? 1 : answer; }
        },
        () -> new Calls() {
            @Override int open(int r) { super.open(r); return r; }
        },
        () -> new Calls() {
            private int crashes = 0;
            @Override int crash(int when) { crashes += when == 2 ? 1 : 0; return super.crash(when); }
            @Override int open(int r) { return super.open(r) + crashes; }
        });
    }

    private static void closeOutside(Edges edges) {
        edges.edge("Promise 11: r outside 0..2: BAD", e -> {
            Calls x = e.busy();
            for (int r : Edge.NOT_READERS) {
                e.due("close(" + r + ")", x.close(r), Calls.BAD);
            }
        },
        () -> new Calls() {
            @Override int close(int r) { return r == 3 ? 1 : super.close(r); }
        },
        () -> new Calls() {
            @Override int close(int r) { return r == -1 ? 0 : super.close(r); }
        },
        () -> new Calls() {
            @Override int close(int r) { return r == Edge.GREATEST || r == Edge.LEAST ? 0 : super.close(r); }
        });
    }

    private static void closeOutsideChangesNothing(Edges edges) {
        edges.edge("Promise 11: r outside 0..2: BAD (and nothing is changed)", e -> {
            Calls x = e.busy();
            for (int r : Edge.NOT_READERS) {
                x.close(r);
            }
            e.dueSame("after refused closes", x, e.busy());
        },
        () -> new Calls() {
            @Override int close(int r) {
                if (r == 3) {
                    super.abort();
                }
                return super.close(r);
            }
        },
        () -> new Calls() {
            @Override int close(int r) {
                if (r == -1) {
                    super.close(0);
                }
                return super.close(r);
            }
        },
        () -> new Calls() {
            private boolean gone = false;
            @Override int close(int r) { gone = gone || r == 3; return super.close(r); }
            @Override int size(int who) { return gone && who == WRITER ? BAD : super.size(who); }
        });
    }

    private static void closeOfOpen(Edges edges) {
        edges.edge("Promise 11: closes a reader; answers 1 if it was open", e -> {
            for (int r = 0; r < 3; r++) {
                Calls x = e.make();
                x.open(0);
                x.open(1);
                x.open(2);
                e.due("close(" + r + ")", x.close(r), 1);
                e.due("seen(" + r + ")", x.seen(r), Calls.BAD);
                e.due("seen of the next", x.seen((r + 1) % 3), 0);
                e.due("seen of the one after it", x.seen((r + 2) % 3), 0);
                x.open(r);
                x.open(r);
                e.due("close(" + r + "), opened twice", x.close(r), 1);
                e.due("seen(" + r + ")", x.seen(r), Calls.BAD);
            }
        },
        () -> new Calls() {
            @Override int close(int r) { return isOpen(r) ? 1 : super.close(r); }
        },
        () -> new Calls() {
            @Override int close(int r) { int answer = super.close(r); return answer == 1 ? 0 : answer; }
        },
        () -> new Calls() {
            @Override int close(int r) { super.close(0); return super.close(r); }
        },
        () -> new Calls() {
            @Override int close(int r) {
                boolean zero = seen(r) == 0;
                int answer = super.close(r);
                return zero ? 0 : answer;
            }
        });
    }

    private static void closeOfClosed(Edges edges) {
        edges.edge("Promise 11: else 0", e -> {
            for (int r = 0; r < 3; r++) {
                Calls x = e.make();
                e.due("close(" + r + "), never opened", x.close(r), 0);
                x.open(r);
                x.close(r);
                e.due("close(" + r + ") again", x.close(r), 0);
                x.open(r);
                x.open(r);
                x.close(r);
                e.due("close(" + r + ") again, opened twice", x.close(r), 0);
                x.open(r);
                x.crash(0);
                e.due("close(" + r + "), crashed", x.close(r), 0);
            }
        },
        () -> new Calls() {
            @Override int close(int r) { int answer = super.close(r); return answer == 0 ? BAD : answer; }
        },
        () -> new Calls() {
            @Override int close(int r) { int answer = super.close(r); return answer == 0 ? 1 : answer; }
        },
        () -> new Calls() {
            private int opens = 0;
            @Override int open(int r) { opens++; return super.open(r); }
            @Override int close(int r) {
                int answer = super.close(r);
                if (opens > 0) {
                    opens--;
                    return 1;
                }
                return answer;
            }
        });
    }

    private static void seenNumber(Edges edges) {
        edges.edge("Promise 14: the number of the state that reader r sees", e -> {
            Calls x = e.make();
            x.open(0);
            e.due("seen(0), state 0", x.seen(0), 0);
            x.put(1, 1);
            x.commit();
            x.open(1);
            x.commit();
            x.commit();
            x.open(2);
            x.commit();
            e.due("seen(0)", x.seen(0), 0);
            e.due("seen(1)", x.seen(1), 1);
            e.due("seen(2)", x.seen(2), 3);
            x.open(0);
            e.due("seen(0), opened anew", x.seen(0), 4);
        },
        () -> new Calls() {
            @Override int seen(int r) { return isOpen(r) ? number() : BAD; }
        },
        () -> new Calls() {
            @Override int seen(int r) { int answer = super.seen(r); return answer == 0 ? BAD : answer; }
        },
        () -> new Calls() {
            private final int[] first = {-1, -1, -1};
            @Override int open(int r) {
                int answer = super.open(r);
                first[r] = first[r] < 0 ? answer : first[r];
                return answer;
            }
            @Override int seen(int r) { return first[r]; }
        });
    }

    private static void seenClosed(Edges edges) {
        edges.edge("Promise 14: BAD if it is closed", e -> {
            for (int r = 0; r < 3; r++) {
                Calls x = e.make();
                e.due("seen(" + r + "), never opened", x.seen(r), Calls.BAD);
                x.open(r);
                x.close(r);
                e.due("seen(" + r + "), closed", x.seen(r), Calls.BAD);
                x.open(r);
                x.crash(1);
                e.due("seen(" + r + "), crashed", x.seen(r), Calls.BAD);
            }
        },
        () -> new Calls() {
            @Override int seen(int r) { return isClosedReader(r) ? 0 : super.seen(r); }
        },
        () -> new Calls() {
            private final int[] last = {-1, -1, -1};
            @Override int open(int r) { last[r] = super.open(r); return last[r]; }
            @Override int seen(int r) { return last[r]; }
        },
        () -> new Calls() {
            private boolean crashed = false;
            @Override int crash(int when) { crashed = true; return super.crash(when); }
            @Override int seen(int r) { return crashed ? number() : super.seen(r); }
        });
    }

    private static void seenOutside(Edges edges) {
        edges.edge("Promise 14: BAD if r is outside 0..2", e -> {
            Calls x = e.busy();
            x.open(2);
            for (int r : Edge.NOT_READERS) {
                e.due("seen(" + r + ")", x.seen(r), Calls.BAD);
            }
        },
        () -> new Calls() {
            @Override int seen(int r) { return r == 3 ? number() : super.seen(r); }
        },
        () -> new Calls() {
            @Override int seen(int r) { return r == -1 ? NONE : super.seen(r); }
        },
        () -> new Calls() {
            @Override int seen(int r) { return super.seen(r & 3); }
        });
    }

    public static void main(String[] args) {
        Edges edges = new Edges();
        hasKeyOutside(edges);
        hasAnotherWho(edges);
        hasClosedReader(edges);
        hasFirstAndLastKey(edges);
        hasByWho(edges);
        getWithoutValue(edges);
        getKeyOutside(edges);
        getAnotherWho(edges);
        getClosedReader(edges);
        nextIsAbove(edges);
        nextOfAnyInt(edges);
        nextNone(edges);
        nextAnotherWho(edges);
        nextClosedReader(edges);
        nextBadBeforeNone(edges);
        sizeFromEmptyToFull(edges);
        sizeAnotherWho(edges);
        sizeClosedReader(edges);
        openOnCommitted(edges);
        openAnew(edges);
        openOutside(edges);
        openOutsideChangesNothing(edges);
        openAnswersNumber(edges);
        closeOutside(edges);
        closeOutsideChangesNothing(edges);
        closeOfOpen(edges);
        closeOfClosed(edges);
        seenNumber(edges);
        seenClosed(edges);
        seenOutside(edges);
        edges.end();
    }
}
