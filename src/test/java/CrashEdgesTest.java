/** The sentences of Promises 12 and 13 that name a boundary: what a crash leaves. */
public final class CrashEdgesTest {

    private static void crashBefore(Edges edges) {
        edges.edge("Promise 12: when is 0: before its last write", e -> {
            Calls x = e.busy();
            e.due("crash(0)", x.crash(0), 2);
            e.due("number()", x.number(), 2);
            e.due("get(3, 1), changed", x.get(3, 1), 10);
            e.due("get(3, 5), erased", x.get(3, 5), 50);
            e.due("has(3, 99), added", x.has(3, 99), false);
            e.due("size(3)", x.size(3), 3);
        },
        () -> new Calls() {
            @Override int crash(int when) { return super.crash(when == 0 ? 1 : when); }
        },
        () -> new Calls() {
            @Override int crash(int when) { return when == 0 ? number() : super.crash(when); }
        });
    }

    private static void crashAfter(Edges edges) {
        edges.edge("Promise 12: 1: right after its last write: the writer's state becomes the committed one", e -> {
            Calls x = e.busy();
            e.due("crash(1)", x.crash(1), 3);
            e.due("number()", x.number(), 3);
            e.due("get(3, 1), changed", x.get(3, 1), 12);
            e.due("has(3, 5), erased", x.has(3, 5), false);
            e.due("get(3, 99), added", x.get(3, 99), 990);
            e.due("size(3)", x.size(3), 3);
            e.due("abort()", x.abort(), 3);
            e.due("get(3, 1)", x.get(3, 1), 12);
            e.due("open(0)", x.open(0), 3);
            e.due("get(0, 99)", x.get(0, 99), 990);
        },
        () -> new Calls() {
            @Override int crash(int when) { return super.crash(when == 1 ? 0 : when); }
        },
        () -> new Calls() {
            @Override int crash(int when) {
                if (when == 1) {
                    super.abort();
                }
                return super.crash(when);
            }
        });
    }

    private static void crashAmid(Edges edges) {
        edges.edge("Promise 12: 2: in the middle of its last write, which is spoiled", e -> {
            Calls x = e.busy();
            e.due("crash(2)", x.crash(2), 2);
            e.due("number()", x.number(), 2);
            e.due("get(3, 1), changed", x.get(3, 1), 10);
            e.due("get(3, 5), erased", x.get(3, 5), 50);
            e.due("has(3, 99), added", x.has(3, 99), false);
            e.due("size(3)", x.size(3), 3);
            Calls y = e.make();
            y.put(1, 1);
            e.due("crash(2), nothing being committed", y.crash(2), 0);
            e.due("size(3)", y.size(3), 0);
        },
        () -> new Calls() {
            @Override int crash(int when) { return super.crash(when == 2 ? 1 : when); }
        },
        () -> new Calls() {
            @Override int crash(int when) { return when == 2 && number() == 0 ? super.crash(1) : super.crash(when); }
        },
        () -> new Calls() {
            @Override int crash(int when) {
                int answer = super.crash(when);
                if (when == 2) {
                    super.erase(5);
                    super.commit();
                }
                return answer;
            }
        });
    }

    private static void spoiledIsOver(Edges edges) {
        edges.edge("Promise 12: which is spoiled (and no later commit is)", e -> {
            Calls x = e.busy();
            x.crash(2);
            x.put(8, 80);
            e.due("crash(2) once more", x.crash(2), 2);
            e.due("has(3, 8)", x.has(3, 8), false);
            e.due("put(8, 81)", x.put(8, 81), 1);
            e.due("commit()", x.commit(), 3);
            e.due("open(0)", x.open(0), 3);
            e.due("get(0, 8)", x.get(0, 8), 81);
            e.due("get(0, 1)", x.get(0, 1), 10);
            x.crash(0);
            e.due("get(3, 8)", x.get(3, 8), 81);
        },
        () -> new Calls() {
            private boolean spoiled = false;
            @Override int crash(int when) { spoiled = when == 2; return super.crash(when); }
            @Override int commit() { return spoiled ? super.abort() : super.commit(); }
        },
        () -> new Calls() {
            private int spoiled = 0;
            @Override int crash(int when) {
                spoiled += when == 2 ? 1 : 0;
                return super.crash(spoiled > 1 ? 1 : when);
            }
        });
    }

    private static void onlyWithOne(Edges edges) {
        edges.edge("Promise 12: only with 1, with the next number (also if nothing was changed)", e -> {
            Calls x = e.make();
            e.due("crash(0)", x.crash(0), 0);
            e.due("crash(2)", x.crash(2), 0);
            e.due("crash(1)", x.crash(1), 1);
            e.due("crash(1)", x.crash(1), 2);
            e.due("crash(0)", x.crash(0), 2);
            e.due("crash(2)", x.crash(2), 2);
            e.due("commit(), no number being skipped", x.commit(), 3);
            e.due("crash(1), nothing changed", x.crash(1), 4);
            e.due("number()", x.number(), 4);
        },
        () -> new Calls() {
            private boolean changed = false;
            @Override int put(int key, int value) { changed = true; return super.put(key, value); }
            @Override int crash(int when) { return super.crash(when == 1 && !changed ? 0 : when); }
        },
        () -> new Calls() {
            @Override int crash(int when) { return super.crash(when == 0 && size(WRITER) == 0 ? 1 : when); }
        },
        () -> new Calls() {
            private int spoiled = 0;
            @Override int crash(int when) { spoiled += when == 2 ? 1 : 0; return super.crash(when); }
            @Override int commit() { return super.commit() + spoiled; }
        });
    }

    private static void writerAfterCrash(Edges edges) {
        edges.edge("Promise 12: then the writer's state is the committed one", e -> {
            for (int when = 0; when < 3; when++) {
                Calls x = e.busy();
                x.crash(when);
                x.open(0);
                e.due("size(3) as size(0) after crash(" + when + ")", x.size(3), x.size(0));
                for (int key = 0; key < 100; key++) {
                    e.due("has(3, " + key + ") as has(0, ..) after crash(" + when + ")", x.has(3, key), x.has(0, key));
                    e.due("get(3, " + key + ") as get(0, ..) after crash(" + when + ")", x.get(3, key), x.get(0, key));
                }
            }
        },
        () -> new Calls() {
            @Override int crash(int when) { int answer = super.crash(when); super.put(50, 1); return answer; }
        },
        () -> new Calls() {
            @Override int crash(int when) {
                int now = super.get(WRITER, 1);
                int answer = super.crash(when);
                super.put(1, now);
                return answer;
            }
        },
        () -> new Calls() {
            @Override int crash(int when) {
                int answer = super.crash(when);
                for (int key = 0; when == 1 && key < 100; key++) {
                    super.erase(key);
                }
                return answer;
            }
        });
    }

    private static void readersAfterCrash(Edges edges) {
        edges.edge("Promise 12: and all readers are closed", e -> {
            for (int when = 0; when < 3; when++) {
                Calls x = e.busy();
                x.open(2);
                x.crash(when);
                for (int r = 0; r < 3; r++) {
                    e.due("seen(" + r + ") after crash(" + when + ")", x.seen(r), Calls.BAD);
                    e.due("size(" + r + ") after crash(" + when + ")", x.size(r), Calls.BAD);
                    e.due("has(" + r + ", 7) after crash(" + when + ")", x.has(r, 7), false);
                    e.due("close(" + r + ") after crash(" + when + ")", x.close(r), 0);
                }
            }
        },
        () -> new Calls() {
            @Override int crash(int when) { int answer = super.crash(when); super.open(0); return answer; }
        },
        () -> new Calls() {
            @Override int crash(int when) { int answer = super.crash(when); super.open(2); return answer; }
        },
        () -> new Calls() {
            @Override int crash(int when) { return when == 1 ? super.commit() : super.crash(when); }
        },
        () -> new Calls() {
            @Override int crash(int when) { return when == 0 ? super.abort() : super.crash(when); }
        },
        () -> new Calls() {
            @Override int crash(int when) { return when == 2 ? super.abort() : super.crash(when); }
        });
    }

    private static void crashOutside(Edges edges) {
        edges.edge("Promise 12: when outside 0..2: BAD", e -> {
            Calls x = e.busy();
            for (int when : Edge.NOT_WHEN) {
                e.due("crash(" + when + ")", x.crash(when), Calls.BAD);
            }
        },
        () -> new Calls() {
            @Override int crash(int when) { return when == 3 ? number() : super.crash(when); }
        },
        () -> new Calls() {
            @Override int crash(int when) { return when == -1 ? number() : super.crash(when); }
        },
        () -> new Calls() {
            @Override int crash(int when) { return super.crash((byte) when); }
        });
    }

    /** Answers BAD where it is due, but has a say in what else happens there. */
    private abstract static class RefusingCrash extends Calls {
        abstract int refuse();

        @Override int crash(int when) {
            return when < 0 || when > 2 ? refuse() : super.crash(when);
        }
    }

    private static void crashOutsideChangesNothing(Edges edges) {
        edges.edge("Promise 12: when outside 0..2: and nothing happens", e -> {
            Calls x = e.busy();
            for (int when : Edge.NOT_WHEN) {
                x.crash(when);
            }
            e.dueSame("after refused crashes", x, e.busy());
        },
        () -> new RefusingCrash() {
            @Override int refuse() { super.abort(); return BAD; }
        },
        () -> new RefusingCrash() {
            @Override int refuse() { super.commit(); return BAD; }
        },
        () -> new RefusingCrash() {
            @Override int refuse() { super.close(0); return BAD; }
        },
        () -> new RefusingCrash() {
            @Override int refuse() { super.close(1); return BAD; }
        },
        () -> new RefusingCrash() {
            @Override int refuse() { super.open(2); return BAD; }
        });
    }

    private static void crashAnswersNumber(Edges edges) {
        edges.edge("Promise 12: else answers the committed state's number", e -> {
            Calls x = e.busy();
            e.due("crash(0)", x.crash(0), 2);
            e.due("crash(1)", x.crash(1), 3);
            e.due("crash(2)", x.crash(2), 3);
            e.due("number()", x.number(), 3);
            e.due("open(0)", x.open(0), 3);
        },
        () -> new Calls() {
            @Override int crash(int when) { int old = number(); super.crash(when); return old; }
        },
        () -> new Calls() {
            @Override int crash(int when) { super.crash(when); return when; }
        },
        () -> new Calls() {
            @Override int crash(int when) { return super.crash(when) + (when == 2 ? 1 : 0); }
        },
        () -> new Calls() {
            @Override int crash(int when) { return super.crash(when) - (when == 0 ? 1 : 0); }
        });
    }

    private static void crashOfFull(Edges edges) {
        edges.edge("Promise 12: the writer's state becomes the committed one (with 24 and with 0 keys)", e -> {
            Calls x = e.full();
            e.due("crash(1)", x.crash(1), 1);
            e.due("size(3)", x.size(3), 24);
            for (int key = 0; key < 96; key += 4) {
                e.due("get(3, " + key + ")", x.get(3, key), 10 * key);
                x.erase(key);
            }
            e.due("crash(2)", x.crash(2), 1);
            e.due("size(3)", x.size(3), 24);
            for (int key = 0; key < 96; key += 4) {
                x.erase(key);
            }
            e.due("crash(1)", x.crash(1), 2);
            e.due("size(3)", x.size(3), 0);
        },
        () -> new Calls() {
            @Override int crash(int when) {
                if (size(WRITER) == 24) {
                    super.erase(92);
                }
                return super.crash(when);
            }
        },
        () -> new Calls() {
            @Override int crash(int when) { return super.crash(size(WRITER) == 0 ? 0 : when); }
        });
    }

    private static void numberThroughAll(Edges edges) {
        edges.edge("Promise 13: the committed state's number", e -> {
            Calls x = e.make();
            e.due("number() of a new object", x.number(), 0);
            x.put(1, 1);
            e.due("number(), changed", x.number(), 0);
            x.commit();
            e.due("number(), committed", x.number(), 1);
            x.erase(1);
            x.abort();
            e.due("number(), aborted", x.number(), 1);
            x.open(0);
            x.commit();
            x.close(0);
            e.due("number(), a reader of state 1 closed", x.number(), 2);
            x.crash(0);
            e.due("number(), crash(0)", x.number(), 2);
            x.crash(1);
            e.due("number(), crash(1)", x.number(), 3);
            x.crash(2);
            e.due("number(), crash(2)", x.number(), 3);
            x.crash(3);
            e.due("number(), crash(3)", x.number(), 3);
            x.put(100, 1);
            x.open(3);
            e.due("number(), calls refused", x.number(), 3);
        },
        () -> new Calls() {
            private boolean changed = false;
            @Override int put(int key, int value) { changed = true; return super.put(key, value); }
            @Override int commit() { changed = false; return super.commit(); }
            @Override int number() { return super.number() + (changed ? 1 : 0); }
        },
        () -> new Calls() {
            @Override int abort() { super.abort(); return super.commit(); }
        },
        () -> new Calls() {
            private int crashes = 0;
            @Override int crash(int when) { crashes++; return super.crash(when); }
            @Override int number() { return super.number() + crashes; }
        },
        () -> new Calls() {
            private int kept = -1;
            @Override int open(int r) { kept = super.open(r); return kept; }
            @Override int number() { return kept < 0 ? super.number() : kept; }
        });
    }

    public static void main(String[] args) {
        Edges edges = new Edges();
        crashBefore(edges);
        crashAfter(edges);
        crashAmid(edges);
        spoiledIsOver(edges);
        onlyWithOne(edges);
        writerAfterCrash(edges);
        readersAfterCrash(edges);
        crashOutside(edges);
        crashOutsideChangesNothing(edges);
        crashAnswersNumber(edges);
        crashOfFull(edges);
        numberThroughAll(edges);
        edges.end();
    }
}
