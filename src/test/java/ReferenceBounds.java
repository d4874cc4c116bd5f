/** The boundaries of transactions, references, logs and wholes: promises 18 to 23. */
final class ReferenceBounds {
    private static final int NONE = Scene.NONE;

    private ReferenceBounds() {
    }

    static void run() {
        expectations();
        badExpectations();
        emptyTransactions();
        unmet();
        commits();
        notWhole();
        references();
        logs();
        wholes();
        shallows();
    }

    private static void expectations() {
        Trial.test(18, "the references go from 0 to 5, and a transaction may have all six", () -> {
            Scene s = new Scene();
            for (int ref = 0; ref < 6; ref++) {
                Trial.same(s.expect(0, 5 - ref, NONE, NONE), ref + 1);
            }
        });
        Trial.test(18, "what it should be may be NONE, or any object", () -> {
            Scene s = Scene.half();
            Trial.same(s.expect(0, 0, NONE, NONE), 1);
            Trial.same(s.expect(0, 1, s.c, NONE), 2);
            Trial.same(s.expect(0, 2, s.f, NONE), 3);
            Trial.same(s.expect(0, 3, s.v, NONE), 4);
        });
        Trial.test(18, "it is to become NONE, a VERSION or a TAG", () -> {
            Scene s = Scene.rich();
            Trial.same(s.expect(0, 2, NONE, NONE), 2);
            Trial.same(s.expect(0, 3, NONE, s.v), 3);
            Trial.same(s.expect(0, 4, NONE, s.t), 4);
        });
        Trial.test(18, "it may be what is not there in the store", () -> {
            Scene s = Scene.rich();
            Trial.same(s.expect(1, 3, s.u, s.v), 2);
        });
        Trial.test(18, "the transactions of the stores are apart", () -> {
            Scene s = new Scene();
            Trial.same(s.expect(0, 0, NONE, NONE), 1);
            Trial.same(s.expect(1, 0, NONE, NONE), 1);
        });
        Trial.test(18, "a transaction that was committed takes the reference again", () -> {
            Scene s = new Scene();
            s.expect(0, 5, NONE, NONE);
            s.commit(0);
            Trial.same(s.expect(0, 5, NONE, NONE), 1);
        });
    }

    private static void badExpectations() {
        Trial.Maker rich = Scene::rich;
        Trial.test(18, "there is no reference -1 and no reference 6", () -> Trial.outOfBounds(rich,
                s -> s.expect(0, -1, NONE, s.v), s -> s.expect(0, 6, NONE, s.v),
                s -> s.expect(0, Integer.MAX_VALUE, NONE, s.v), s -> s.expect(0, Integer.MIN_VALUE, NONE, s.v)));
        Trial.test(18, "a CONTENT or FOLDER is nothing to become",
                () -> Trial.badArgument(rich, s -> s.expect(0, 4, NONE, s.c), s -> s.expect(0, 4, NONE, s.g)));
        Trial.test(18, "the reference that is in it already is refused, even with the same",
                () -> Trial.badArgument(rich, s -> s.expect(0, 1, NONE, s.v), s -> s.expect(0, 1, NONE, NONE)));
        Trial.test(18, "an object that was not told is told ahead of one that is nothing to become",
                () -> Trial.outOfBounds(rich, s -> s.expect(0, 4, 8900, s.c), s -> s.expect(0, 1, -2, s.v)));
        Trial.test(18, "no such store or reference is told ahead of one that is nothing to become",
                () -> Trial.outOfBounds(rich, s -> s.expect(2, 1, NONE, s.c), s -> s.expect(0, 6, NONE, s.c)));
        Trial.test(18, "a full transaction takes no reference", () -> {
            Trial.Maker full = () -> {
                Scene s = new Scene();
                for (int ref = 0; ref < 6; ref++) {
                    s.expect(0, ref, NONE, NONE);
                }
                return s;
            };
            Trial.badArgument(full, s -> s.expect(0, 0, NONE, NONE), s -> s.expect(0, 5, NONE, NONE));
        });
    }

    private static void emptyTransactions() {
        Trial.test(19, "an empty transaction is refused", () -> Trial.badState(Scene::half, s -> s.commit(0),
                s -> s.commit(1)));
        Trial.test(19, "it is empty when it was committed", () -> Trial.badState(() -> {
            Scene s = Scene.half();
            s.expect(0, 3, NONE, s.v);
            s.commit(0);
            return s;
        }, s -> s.commit(0)));
        Trial.test(19, "it is empty when a reference was not as it should be", () -> Trial.badState(() -> {
            Scene s = Scene.half();
            s.expect(0, 0, NONE, s.v);
            s.commit(0);
            return s;
        }, s -> s.commit(0)));
        Trial.test(19, "the transaction of the other store does not count", () -> Trial.badState(() -> {
            Scene s = Scene.half();
            s.expect(1, 0, NONE, NONE);
            return s;
        }, s -> s.commit(0)));
        Trial.test(19, "no such store is told ahead of an empty transaction",
                () -> Trial.outOfBounds(Scene::half, s -> s.commit(2), s -> s.commit(-1)));
    }

    private static void unmet() {
        Trial.test(19, "if one is not as it should be, none becomes so, and there is no NOTE", () -> {
            for (int wrong = 0; wrong < 6; wrong++) {
                Scene s = Scene.half();
                s.sync(0);
                for (int ref = 0; ref < 6; ref++) {
                    s.expect(0, ref, (ref == 0) == (ref == wrong) ? NONE : s.v, ref == 0 ? NONE : s.v);
                }
                Trial.no(s.commit(0));
                Trial.same(s.unsynced(0), 0);
                Trial.same(s.logs(0), 1);
                Trial.same(s.ref(0, 0), s.v);
                Trial.same(s.ref(0, 1), NONE);
                Trial.same(s.ref(0, 5), NONE);
            }
        });
        Trial.test(19, "a reference that is NONE is not as it should be if that is a VERSION", () -> {
            Scene s = Scene.half();
            s.expect(0, 1, s.v, s.v);
            Trial.no(s.commit(0));
        });
        Trial.test(19, "the TAG of the VERSION is not the VERSION", () -> {
            Scene s = Scene.half();
            s.t = s.tag(0, s.v);
            s.expect(0, 0, s.t, s.v);
            Trial.no(s.commit(0));
        });
        Trial.test(19, "not as it should be goes ahead of not whole: it answers", () -> {
            Scene s = Scene.rich();
            s.expect(1, 3, s.v, s.v);
            Trial.no(s.commit(1));
            Trial.same(s.ref(1, 2), NONE);
        });
    }

    private static void commits() {
        Trial.test(19, "all six become so by one NOTE", () -> {
            Scene s = Scene.half();
            s.expect(0, 0, s.v, NONE);
            for (int ref = 1; ref < 6; ref++) {
                s.expect(0, ref, NONE, s.v);
            }
            Trial.yes(s.commit(0));
            Trial.same(s.unsynced(0), 5);
            Trial.same(s.logs(0), 7);
            Trial.same(s.ref(0, 0), NONE);
            Trial.same(s.ref(0, 1), s.v);
            Trial.same(s.ref(0, 5), s.v);
        });
        Trial.test(19, "there is a NOTE also if none becomes another one, but no entry", () -> {
            Scene s = Scene.half();
            s.expect(0, 0, s.v, s.v);
            s.expect(0, 1, NONE, NONE);
            Trial.yes(s.commit(0));
            Trial.same(s.unsynced(0), 5);
            Trial.same(s.logs(0), 1);
        });
        Trial.test(19, "only what becomes another one has an entry", () -> {
            Scene s = Scene.half();
            s.expect(0, 0, s.v, s.v);
            s.expect(0, 5, NONE, s.v);
            Trial.yes(s.commit(0));
            Trial.same(s.logs(0), 2);
        });
        Trial.test(19, "a reference not told of stays", () -> {
            Scene s = Scene.half();
            s.expect(0, 5, NONE, s.v);
            s.commit(0);
            Trial.same(s.ref(0, 0), s.v);
            Trial.same(s.ref(0, 4), NONE);
        });
        Trial.test(19, "to become NONE nothing has to be whole", () -> {
            Scene s = new Scene();
            s.expect(1, 0, NONE, NONE);
            Trial.yes(s.commit(1));
        });
    }

    private static Scene broken() {
        Scene s = new Scene();
        s.c = s.tellContent(0, 1, 2, 3);
        s.f = s.tellFolder(0, 0, s.c);
        s.v = s.version(0, s.f, 5, NONE, NONE);
        s.t = s.tag(0, s.v);
        s.crash(0, 14);
        return s;
    }

    private static void notWhole() {
        Trial.test(19, "what is not whole is refused, and the transaction stays", () -> Trial.badState(() -> {
            Scene s = broken();
            s.expect(0, 0, NONE, s.v);
            return s;
        }, s -> s.commit(0)));
        Trial.test(19, "a TAG of what is not whole is refused", () -> Trial.badState(() -> {
            Scene s = broken();
            s.expect(0, 5, NONE, s.t);
            return s;
        }, s -> s.commit(0)));
        Trial.test(19, "one that is not whole among others is refused, first or last", () -> {
            for (int ref = 0; ref < 3; ref++) {
                int wrong = ref;
                Trial.badState(() -> {
                    Scene s = broken();
                    s.w = s.version(0, s.tellFolder(0), 1, NONE, NONE);
                    for (int k = 0; k < 3; k++) {
                        s.expect(0, k, NONE, k == wrong ? s.v : s.w);
                    }
                    return s;
                }, s -> s.commit(0));
            }
        });
        Trial.test(19, "what a crash took is refused, though its parent is whole", () -> Trial.badState(() -> {
            Scene s = Scene.half();
            s.crash(1, 3);
            s.w = s.version(1, s.f, 6, s.v, NONE);
            s.crash(1, 0);
            s.expect(1, 1, NONE, s.w);
            return s;
        }, s -> s.commit(1)));
        Trial.test(19, "what is promised is enough, and what is spoiled", () -> {
            Scene s = Scene.half();
            s.spoil(1, s.f);
            s.expect(1, 1, NONE, s.v);
            Trial.yes(s.commit(1));
        });
    }

    private static void references() {
        Trial.test(20, "the references go from 0 to 5", () -> {
            Scene s = Scene.half();
            Trial.same(s.ref(0, 0), s.v);
            Trial.same(s.ref(0, 5), NONE);
            s.move(0, 5, s.v);
            Trial.same(s.ref(0, 5), s.v);
        });
        Trial.test(20, "there is no reference -1 and no reference 6", () -> Trial.outOfBounds(Scene::rich,
                s -> s.ref(0, -1), s -> s.ref(0, 6), s -> s.ref(1, Integer.MAX_VALUE),
                s -> s.ref(1, Integer.MIN_VALUE)));
        Trial.test(20, "a reference is the name of the TAG, not of its VERSION", () -> {
            Scene s = Scene.rich();
            Trial.same(s.ref(0, 0), s.t);
            Trial.same(s.ref(1, 0), s.t);
        });
        Trial.test(20, "the stores have references of their own", () -> {
            Scene s = Scene.half();
            s.move(0, 1, s.v);
            Trial.same(s.ref(1, 1), NONE);
        });
    }

    private static void logs() {
        Trial.test(21, "the log is empty at first, and of each store its own", () -> {
            Scene s = new Scene();
            s.v = s.version(0, s.tellFolder(0), 1, NONE, NONE);
            s.move(0, 0, s.v);
            Trial.same(s.logs(0), 1);
            Trial.same(s.logs(1), 0);
        });
        Trial.test(21, "entries stay when they are old", () -> {
            Scene s = Scene.half();
            s.tick(100);
            s.sweep(0);
            Trial.same(s.logs(0), 1);
        });
        Trial.test(21, "a log takes as many entries as 512 calls can make", () -> {
            Scene s = new Scene();
            s.v = s.version(0, s.tellFolder(0), 1, NONE, NONE);
            int old = NONE;
            for (int k = 0; k < 72; k++) {
                int now = old == NONE ? s.v : NONE;
                for (int ref = 0; ref < 6; ref++) {
                    s.expect(0, ref, old, now);
                }
                Trial.yes(s.commit(0));
                old = now;
            }
            Trial.same(s.logs(0), 432);
            s.tick(20);
            Trial.same(s.sweep(0), 2);
        });
        Trial.test(21, "the last of many entries is a root as the first one was", () -> {
            Scene s = new Scene();
            s.v = s.version(0, s.tellFolder(0), 1, NONE, NONE);
            int old = NONE;
            for (int k = 0; k < 62; k++) {
                int now = old == NONE ? s.v : NONE;
                for (int ref = 0; ref < 6; ref++) {
                    s.expect(0, ref, old, now);
                }
                s.commit(0);
                s.tick(1);
                old = now;
            }
            s.tick(18);
            Trial.same(s.sweep(0), 0);
            s.tick(1);
            Trial.same(s.sweep(0), 2);
            Trial.same(s.logs(0), 372);
        });
    }

    private static void wholes() {
        Trial.test(22, "an object that reaches itself alone is whole if it is there", () -> {
            Scene s = Scene.half();
            Trial.yes(s.isWhole(0, s.c));
            Trial.no(s.isWhole(0, s.tellContent(1, 9)));
            s.g = s.tellFolder(0);
            Trial.yes(s.isWhole(0, s.g));
            Trial.no(s.isWhole(1, s.g));
        });
        Trial.test(22, "what is promised and not there is whole", () -> {
            Scene s = Scene.half();
            Trial.yes(s.isWhole(1, s.c));
            Trial.yes(s.isWhole(1, s.f));
            Trial.yes(s.isWhole(1, s.v));
        });
        Trial.test(22, "with one object not there all that reach it are not whole", () -> {
            Scene s = broken();
            Trial.no(s.isWhole(0, s.c));
            Trial.no(s.isWhole(0, s.f));
            Trial.no(s.isWhole(0, s.v));
            Trial.no(s.isWhole(0, s.t));
        });
        Trial.test(22, "what is there but spoiled is whole", () -> {
            Scene s = Scene.half();
            s.spoil(0, s.c);
            Trial.yes(s.isWhole(0, s.v));
        });
        Trial.test(22, "the parents of what is shallow are not reached", () -> {
            Scene s = Scene.rich();
            Trial.yes(s.isWhole(1, s.w));
            Trial.yes(s.isWhole(1, s.t));
            Trial.no(s.isWhole(1, s.v));
        });
        Trial.test(22, "a second parent that is not there makes it not whole", () -> {
            Scene s = new Scene();
            int f = s.tellFolder(0);
            int a = s.version(0, f, 1, NONE, NONE);
            s.sync(0);
            int b = s.version(0, f, 2, NONE, NONE);
            int both = s.version(0, f, 3, a, b);
            Trial.yes(s.isWhole(0, both));
            s.crash(0, 2);
            Trial.no(s.isWhole(0, both));
        });
    }

    private static void shallows() {
        Trial.test(23, "false if it is no VERSION", () -> {
            Scene s = Scene.rich();
            Trial.yes(s.isShallow(1, s.w));
            Trial.no(s.isShallow(1, s.c) || s.isShallow(1, s.g) || s.isShallow(1, s.t));
        });
        Trial.test(23, "it is so in that store alone", () -> {
            Scene s = Scene.rich();
            Trial.no(s.isShallow(0, s.w));
            Trial.no(s.isShallow(1, s.v));
        });
    }
}
