/** The boundaries of copies, deeds, crashes and ticks: promises 12 to 17. */
final class StoreBounds {
    private static final int NONE = Scene.NONE;
    private static final int ALL = 1073741823;
    private static final int LOOSE = PackSpring.LOOSE;
    private static final int PACKED = PackSpring.PACKED;
    private static final int PROMISED = PackSpring.PROMISED;

    private StoreBounds() {
    }

    static void run() {
        places();
        copies();
        overTheLine();
        notOverTheLine();
        wheres();
        deeds();
        thirty();
        thirtyOnTheWay();
        masks();
        masksBeyond();
        order();
        orderOfNotes();
        unlinks();
        lost();
        kept();
        notLost();
        notLostBesides();
        besides();
        ticks();
    }

    private static void places() {
        Trial.Maker rich = Scene::rich;
        Trial.test(12, "the first and the last place are read", () -> {
            Scene s = Scene.rich();
            Trial.same(s.read(0, s.c, 0), 1);
            Trial.same(s.read(0, s.c, 2), 3);
        });
        Trial.test(12, "there is no place below 0 or beyond the last one", () -> Trial.outOfBounds(rich,
                s -> s.read(0, s.c, -1), s -> s.read(0, s.c, 3), s -> s.read(0, s.c, Integer.MAX_VALUE),
                s -> s.read(0, s.c, Integer.MIN_VALUE)));
        Trial.test(12, "no such place is told ahead of no good copy",
                () -> Trial.outOfBounds(rich, s -> s.read(1, s.v, 2), s -> s.read(1, s.u, -1)));
        Trial.test(12, "what is promised has no place beyond its last one, and is not read by that",
                () -> Trial.outOfBounds(rich, s -> s.read(1, s.d, 4), s -> s.read(1, s.d, -1)));
    }

    private static Scene packed() {
        Scene s = new Scene();
        s.c = s.tellContent(0, 4, 5);
        s.pack(0, 0, 0);
        return s;
    }

    private static Scene onBase() {
        Scene s = new Scene();
        s.c = s.tellContent(0, 0, 7, 7, 7, 7);
        s.d = s.tellContent(0, 1, 7, 7, 7, 7);
        s.pack(0, 1, 1);
        s.pin(0, s.c);
        s.pin(0, s.d);
        s.sweep(0);
        return s;
    }

    /** Sent twice, as no reference held it in between, so that there are two packs with it. */
    private static Scene twice() {
        Scene s = new Scene();
        s.v = s.root(0, 6);
        s.c = s.nth(0);
        s.move(0, 0, s.v);
        s.fetch(0, 0, 0, false);
        s.move(1, 0, NONE);
        s.fetch(0, 0, 0, false);
        return s;
    }

    private static void copies() {
        Trial.test(12, "with the loose copy spoiled it is read from the pack", () -> {
            Scene s = packed();
            Trial.same(s.spoil(0, s.c), NONE);
            Trial.same(s.read(0, s.c, 1), 5);
        });
        Trial.test(12, "with the entry spoiled it is read from the loose copy", () -> {
            Scene s = packed();
            s.spoil(0, s.c);
            s.spoil(0, s.c);
            s.tellContent(0, 4, 5);
            Trial.same(s.read(0, s.c, 1), 5);
        });
        Trial.test(12, "with all copies spoiled it is not read", () -> Trial.badState(() -> {
            Scene s = packed();
            s.spoil(0, s.c);
            s.spoil(0, s.c);
            return s;
        }, s -> s.read(0, s.c, 0)));
        Trial.test(12, "with the entry of the greatest number spoiled it is read from an earlier pack", () -> {
            Scene s = twice();
            Trial.same(s.spoil(1, s.c), 1);
            Trial.same(s.read(1, s.c, 0), 6);
            Trial.same(s.spoil(1, s.c), 0);
            Trial.same(s.where(1, s.c), PACKED);
        });
        Trial.test(12, "an entry whose base is spoiled is not good", () -> Trial.badState(() -> {
            Scene s = onBase();
            s.spoil(0, s.c);
            return s;
        }, s -> s.read(0, s.d, 0), s -> s.read(0, s.c, 0)));
        Trial.test(12, "a base is good when an entry on it is spoiled", () -> {
            Scene s = onBase();
            s.spoil(0, s.d);
            Trial.same(s.read(0, s.c, 1), 7);
        });
        Trial.test(12, "a base that is good again as a loose copy does not make the entry on it good",
                () -> Trial.badState(() -> {
                    Scene s = onBase();
                    s.spoil(0, s.c);
                    s.tellContent(0, 0, 7, 7, 7, 7);
                    return s;
                }, s -> s.read(0, s.d, 0)));
        Trial.test(12, "what is in the other store alone is not read, nor what was told alone", () -> {
            Trial.badState(StoreBounds::packed, s -> s.read(1, s.c, 0));
            Trial.badState(() -> {
                Scene s = new Scene();
                s.c = s.tellContent(0, 1);
                s.crash(0, 0);
                return s;
            }, s -> s.read(0, s.c, 0));
        });
    }

    private static void overTheLine() {
        Trial.test(12, "what is promised and not there is read over the line, and written", () -> {
            Scene s = Scene.half();
            Trial.same(s.unsynced(1), 2);
            Trial.same(s.read(1, s.c, 2), 3);
            Trial.same(s.unsynced(1), 3);
            Trial.same(s.where(1, s.c), LOOSE + PROMISED);
        });
        Trial.test(12, "of two that are promised the one that is read is written, and it alone", () -> {
            Scene s = Scene.rich();
            Trial.same(s.where(1, s.c), LOOSE + PROMISED);
            Trial.same(s.read(1, s.d, 2), 4);
            Trial.same(s.where(1, s.d), LOOSE + PROMISED);
            s.spoil(1, s.c);
            Trial.same(s.read(1, s.d, 3), 3);
        });
        Trial.test(12, "what was read over the line is read again with the line down", () -> {
            Scene s = Scene.half();
            s.read(1, s.c, 0);
            s.line();
            Trial.same(s.read(1, s.c, 1), 2);
            Trial.same(s.unsynced(1), 3);
        });
        Trial.test(12, "a good entry of the other store is enough to be read over the line", () -> {
            Scene s = Scene.half();
            s.pack(0, 0, 0);
            s.spoil(0, s.c);
            Trial.same(s.read(1, s.c, 0), 1);
        });
        Trial.test(12, "what is read over the line was written last in this tick", () -> {
            Scene s = Scene.half();
            s.move(1, 0, NONE);
            s.tick(20);
            s.read(1, s.c, 0);
            s.tick(9);
            Trial.same(s.sweep(1), 1);
            Trial.same(s.where(1, s.c), LOOSE + PROMISED);
            s.tick(1);
            Trial.same(s.sweep(1), 1);
            Trial.same(s.where(1, s.c), PROMISED);
        });
        Trial.test(12, "to read a good copy writes nothing, and leaves when it was written last", () -> {
            Scene s = new Scene();
            s.c = s.tellContent(0, 1);
            s.tick(5);
            Trial.same(s.read(0, s.c, 0), 1);
            Trial.same(s.unsynced(0), 1);
            s.tick(5);
            Trial.same(s.sweep(0), 1);
        });
        Trial.test(12, "the 31st deed may be a read over the line", () -> {
            Scene s = Scene.half();
            for (int k = 0; k < 28; k++) {
                s.tellContent(1, k);
            }
            Trial.same(s.unsynced(1), 30);
            s.read(1, s.c, 0);
            Trial.same(s.unsynced(1), 1);
        });
    }

    private static void notOverTheLine() {
        Trial.test(12, "with the line down what is promised and not there is not read", () -> Trial.badState(() -> {
            Scene s = Scene.half();
            s.line();
            return s;
        }, s -> s.read(1, s.c, 0)));
        Trial.test(12, "what the other store has spoiled is not read over the line", () -> Trial.badState(() -> {
            Scene s = Scene.half();
            s.spoil(0, s.c);
            return s;
        }, s -> s.read(1, s.c, 0)));
        Trial.test(12, "another object that is good in the other store does not help", () -> Trial.badState(() -> {
            Scene s = Scene.rich();
            s.spoil(0, s.d);
            s.spoil(0, s.d);
            return s;
        }, s -> s.read(1, s.d, 0)));
        Trial.test(12, "what is no more in the other store is not read over the line", () -> Trial.badState(() -> {
            Scene s = Scene.half();
            s.crash(0, 6);
            return s;
        }, s -> s.read(1, s.c, 0)));
        Trial.test(12, "what is promised, there and spoiled is not read over the line", () -> Trial.badState(() -> {
            Scene s = Scene.half();
            s.read(1, s.c, 0);
            s.spoil(1, s.c);
            return s;
        }, s -> s.read(1, s.c, 0)));
        Trial.test(12, "what is not promised is not read over the line", () -> Trial.badState(() -> {
            Scene s = Scene.half();
            s.d = s.tellContent(0, 9);
            return s;
        }, s -> s.read(1, s.d, 0), s -> s.read(1, s.d, 0)));
    }

    private static void wheres() {
        Trial.test(13, "an object that was told alone is nowhere", () -> {
            Scene s = Scene.rich();
            Trial.same(s.where(1, s.v), 0);
            Trial.same(s.where(1, s.f), 0);
        });
        Trial.test(13, "LOOSE is 1, PACKED 2 and PROMISED 4", () -> {
            Scene s = Scene.half();
            Trial.same(s.where(0, s.c), 1);
            Trial.same(s.where(1, s.f), 2);
            Trial.same(s.where(1, s.c), 4);
        });
        Trial.test(13, "LOOSE and PACKED are added up", () -> {
            Scene s = packed();
            Trial.same(s.where(0, s.c), 3);
        });
        Trial.test(13, "LOOSE and PROMISED, with PACKED, and PACKED and PROMISED are added up", () -> {
            Scene s = Scene.half();
            s.read(1, s.c, 0);
            Trial.same(s.where(1, s.c), 5);
            Trial.same(s.pack(1, 0, 0), 1);
            Trial.same(s.where(1, s.c), 7);
            s.sweep(1);
            Trial.same(s.where(1, s.c), 6);
        });
        Trial.test(13, "spoiled or not, a copy is a copy", () -> {
            Scene s = packed();
            s.spoil(0, s.c);
            Trial.same(s.where(0, s.c), 3);
            s.spoil(0, s.c);
            Trial.same(s.where(0, s.c), 3);
        });
        Trial.test(13, "entries in two packs count once", () -> {
            Scene s = packed();
            s.spoil(0, s.c);
            s.spoil(0, s.c);
            s.tellContent(0, 4, 5);
            Trial.same(s.pack(0, 0, 0), 1);
            Trial.same(s.where(0, s.c), 3);
        });
        Trial.test(13, "promised is never taken back by sweeping or a full fetch", () -> {
            Scene s = Scene.half();
            s.move(1, 0, NONE);
            s.fetch(0, 0, 0, false);
            Trial.same(s.where(1, s.c), PACKED + PROMISED);
            s.move(1, 0, NONE);
            s.tick(20);
            s.sweep(1);
            Trial.same(s.where(1, s.c), PROMISED);
        });
    }

    private static void deeds() {
        Trial.test(15, "WRITE, PACK, UNLINK and NOTE are a deed each", () -> {
            Scene s = new Scene();
            int c = s.tellContent(0, 1);
            Trial.same(s.unsynced(0), 1);
            s.pack(0, 0, 0);
            Trial.same(s.unsynced(0), 2);
            s.tick(10);
            Trial.same(s.sweep(0), 2);
            Trial.same(s.unsynced(0), 4);
            Trial.same(s.where(0, c), 0);
            s.expect(0, 0, NONE, NONE);
            s.commit(0);
            Trial.same(s.unsynced(0), 5);
        });
        Trial.test(15, "to replace is one NOTE", () -> {
            Scene s = Scene.half();
            int w = s.version(0, s.f, 6, NONE, NONE);
            int had = s.unsynced(0);
            s.replace(0, s.v, w);
            Trial.same(s.unsynced(0), had + 1);
        });
        Trial.test(15, "to fetch is a PACK and a NOTE, and nothing in the first store", () -> {
            Scene s = Scene.half();
            Trial.same(s.unsynced(1), 2);
            Trial.same(s.unsynced(0), 4);
        });
        Trial.test(15, "what makes no deed", () -> {
            Scene s = Scene.half();
            s.spoil(0, s.c);
            s.pin(0, s.c);
            s.choose(0, s.v);
            s.walk(0, s.v, NONE);
            s.expect(0, 0, NONE, NONE);
            Trial.no(s.commit(0));
            s.tick(1);
            s.line();
            Trial.same(s.pack(1, 0, 0), NONE);
            Trial.same(s.sweep(1), 0);
            Trial.same(s.unsynced(0), 4);
            Trial.same(s.unsynced(1), 2);
        });
        Trial.test(14, "none are not synced: 0", () -> {
            Scene s = new Scene();
            Trial.same(s.sync(0), 0);
            s.tellContent(0, 1);
            Trial.same(s.sync(0), 1);
            Trial.same(s.sync(0), 0);
            Trial.same(s.unsynced(0), 0);
        });
        Trial.test(14, "all deeds of that store are synced, of the other one none", () -> {
            Scene s = Scene.half();
            Trial.same(s.sync(0), 4);
            Trial.same(s.unsynced(1), 2);
            Trial.same(s.crash(0, 0), 0);
            Trial.same(s.ref(0, 0), s.v);
        });
    }

    private static void thirty() {
        Trial.test(15, "30 deeds stay not synced", () -> {
            Scene s = Scene.busy(0, 30);
            Trial.same(s.unsynced(0), 30);
            Trial.same(s.crash(0, 0), 30);
            Trial.same(s.where(0, s.nth(0)), 0);
        });
        Trial.test(14, "30 deeds are synced", () -> Trial.same(Scene.busy(0, 30).sync(0), 30));
        Trial.test(15, "30 deeds are synced ahead of the next one, a WRITE", () -> {
            Scene s = Scene.busy(0, 31);
            Trial.same(s.unsynced(0), 1);
            Trial.same(s.crash(0, 0), 1);
            Trial.same(s.where(0, s.nth(29)), LOOSE);
            Trial.same(s.where(0, s.nth(30)), 0);
        });
        Trial.test(15, "30 deeds are synced ahead of the next one, a PACK", () -> {
            Scene s = Scene.busy(0, 30);
            s.pack(0, 0, 0);
            Trial.same(s.crash(0, 0), 1);
            Trial.same(s.where(0, s.nth(29)), LOOSE);
        });
        Trial.test(15, "30 deeds are synced ahead of the next one, an UNLINK", () -> {
            Scene s = Scene.busy(0, 30);
            s.tick(10);
            Trial.same(s.sweep(0), 30);
            Trial.same(s.unsynced(0), 30);
            Trial.same(s.crash(0, 0), 30);
            Trial.same(s.where(0, s.nth(0)), LOOSE);
        });
        Trial.test(15, "30 deeds are synced ahead of the next one, a NOTE of references", () -> {
            Scene s = Scene.busy(0, 30);
            s.expect(0, 0, NONE, NONE);
            s.commit(0);
            Trial.same(s.crash(0, 0), 1);
            Trial.same(s.where(0, s.nth(29)), LOOSE);
        });
    }

    private static void thirtyOnTheWay() {
        Trial.test(15, "between PACK and NOTE of one fetch all may be synced", () -> {
            Scene s = Scene.busy(1, 29);
            s.v = s.root(0, 50);
            s.move(0, 0, s.v);
            s.fetch(0, 0, 0, false);
            Trial.same(s.unsynced(1), 1);
            Trial.same(s.crash(1, 0), 1);
            Trial.same(s.where(1, s.v), PACKED);
            Trial.same(s.ref(1, 0), NONE);
        });
        Trial.test(15, "a refused call at 30 deeds syncs none", () -> {
            Scene full = Scene.busy(0, 30);
            Trial.badState(() -> Scene.busy(0, 30), s -> s.commit(0), s -> s.read(1, full.nth(0), 0));
        });
        Trial.test(15, "a NOTE that was synced on the way is what it was then", () -> {
            Scene s = new Scene();
            s.v = s.root(0, 50);
            s.move(0, 0, s.v);
            for (int k = 0; k < 26; k++) {
                s.tellContent(0, k);
            }
            s.move(0, 0, NONE);
            Trial.same(s.unsynced(0), 1);
            s.crash(0, 0);
            Trial.same(s.ref(0, 0), s.v);
            Trial.same(s.logs(0), 1);
        });
    }

    private static void masks() {
        Trial.Maker busy = () -> Scene.busy(0, 3);
        Trial.test(16, "deeds 0: none is done", () -> {
            Scene s = busy.make();
            Trial.same(s.crash(0, 0), 3);
            Trial.same(s.where(0, s.nth(0)) + s.where(0, s.nth(1)) + s.where(0, s.nth(2)), 0);
        });
        Trial.test(16, "deeds 1073741823: all are done", () -> {
            Scene s = busy.make();
            Trial.same(s.crash(0, ALL), 0);
            Trial.same(s.where(0, s.nth(0)) + s.where(0, s.nth(1)) + s.where(0, s.nth(2)), 3);
        });
        Trial.test(16, "deeds below 0 are refused",
                () -> Trial.badArgument(busy, s -> s.crash(0, -1), s -> s.crash(0, Integer.MIN_VALUE)));
        Trial.test(16, "deeds above 1073741823 are refused",
                () -> Trial.badArgument(busy, s -> s.crash(0, 1073741824), s -> s.crash(0, Integer.MAX_VALUE)));
        Trial.test(16, "that there is no such store is told ahead of deeds out of their range",
                () -> Trial.outOfBounds(busy, s -> s.crash(2, -1), s -> s.crash(-1, 1073741824)));
        Trial.test(16, "bit k is for the deed k, numbered from 0", () -> {
            for (int k = 0; k < 3; k++) {
                Scene s = busy.make();
                Trial.same(s.crash(0, 1 << k), 2);
                Trial.same(s.where(0, s.nth(k)), LOOSE);
                Trial.same(s.where(0, s.nth((k + 1) % 3)) + s.where(0, s.nth((k + 2) % 3)), 0);
            }
        });
        Trial.test(16, "bit 29 is for the 30th deed", () -> {
            Scene s = Scene.busy(0, 30);
            Trial.same(s.crash(0, 1 << 29), 29);
            Trial.same(s.where(0, s.nth(29)), LOOSE);
            Trial.same(s.where(0, s.nth(28)), 0);
        });
    }

    private static void masksBeyond() {
        Trial.test(16, "bits for deeds that there are not do nothing", () -> {
            Scene s = Scene.busy(0, 3);
            Trial.same(s.crash(0, ALL - 7), 3);
        });
        Trial.test(16, "numbers begin anew at 0 when deeds were synced", () -> {
            Scene s = Scene.busy(0, 3);
            s.sync(0);
            s.c = s.tellContent(0, 50);
            Trial.same(s.crash(0, 1), 0);
            Trial.same(s.where(0, s.c), LOOSE);
        });
        Trial.test(16, "with no deeds there is nothing to lose", () -> {
            Scene s = Scene.busy(0, 3);
            s.sync(0);
            Trial.same(s.crash(0, 0), 0);
            Trial.same(s.where(0, s.nth(2)), LOOSE);
        });
        Trial.test(16, "all is synced then", () -> {
            Scene s = Scene.busy(0, 3);
            s.crash(0, 2);
            Trial.same(s.unsynced(0), 0);
            Trial.same(s.crash(0, 0), 0);
            Trial.same(s.where(0, s.nth(1)), LOOSE);
        });
        Trial.test(16, "the other store does not crash", () -> {
            Scene s = Scene.busy(1, 3);
            Trial.same(s.crash(0, 0), 0);
            Trial.same(s.unsynced(1), 3);
        });
    }

    private static void order() {
        Trial.test(16, "a WRITE or PACK is done though a deed ahead is not", () -> {
            Scene s = Scene.busy(0, 2);
            s.pack(0, 0, 0);
            Trial.same(s.crash(0, 6), 1);
            Trial.same(s.where(0, s.nth(0)), PACKED);
            Trial.same(s.where(0, s.nth(1)), LOOSE + PACKED);
        });
        Trial.test(16, "a NOTE of references is not done when a deed ahead is not", () -> {
            Scene s = Scene.half();
            Trial.same(s.crash(0, 14), 2);
            Trial.same(s.ref(0, 0), NONE);
            Trial.same(s.where(0, s.v), LOOSE);
        });
        Trial.test(16, "a NOTE of references is done when all ahead are", () -> {
            Scene s = Scene.half();
            Trial.same(s.crash(0, 15), 0);
            Trial.same(s.ref(0, 0), s.v);
        });
        Trial.test(16, "a NOTE is not done without its bit", () -> {
            Scene s = Scene.half();
            Trial.same(s.crash(0, 7), 1);
            Trial.same(s.ref(0, 0), NONE);
        });
        Trial.test(16, "a WRITE or PACK behind a NOTE that is not done is done", () -> {
            Scene s = new Scene();
            s.expect(0, 0, NONE, NONE);
            s.commit(0);
            s.c = s.tellContent(0, 1);
            s.pack(0, 0, 0);
            Trial.same(s.crash(0, 6), 1);
            Trial.same(s.where(0, s.c), LOOSE + PACKED);
        });
    }

    private static void orderOfNotes() {
        Trial.test(16, "a NOTE behind one that is not done is not done", () -> {
            Scene s = Scene.half();
            s.sync(0);
            s.move(0, 1, s.v);
            s.move(0, 2, s.v);
            Trial.same(s.crash(0, 2), 2);
            Trial.same(s.ref(0, 2), NONE);
            Trial.same(s.logs(0), 1);
        });
        Trial.test(16, "of several NOTEs the last that is done tells", () -> {
            Scene s = Scene.half();
            s.sync(0);
            s.move(0, 1, s.v);
            s.move(0, 2, s.v);
            s.move(0, 1, NONE);
            Trial.same(s.crash(0, 3), 1);
            Trial.same(s.ref(0, 1), s.v);
            Trial.same(s.ref(0, 2), s.v);
            Trial.same(s.logs(0), 3);
        });
        Trial.test(16, "a NOTE of a fetch is not done without its PACK", () -> {
            Scene s = Scene.half();
            Trial.same(s.crash(1, 2), 2);
            Trial.same(s.ref(1, 0), NONE);
            Trial.same(s.where(1, s.v) + s.where(1, s.c), 0);
        });
        Trial.test(16, "a NOTE of what is replaced is not done when a deed ahead is not", () -> {
            Scene s = Scene.half();
            s.sync(0);
            s.w = s.version(0, s.f, 6, NONE, NONE);
            s.replace(0, s.w, s.v);
            Trial.same(s.crash(0, 2), 2);
            Trial.same(s.replace(0, s.w, NONE), NONE);
        });
    }

    private static Scene swept() {
        Scene s = new Scene();
        s.c = s.tellContent(0, 1);
        s.sync(0);
        s.tick(10);
        s.d = s.tellContent(0, 2);
        s.sweep(0);
        return s;
    }

    private static void unlinks() {
        Trial.test(16, "an UNLINK of a loose copy is not done when a deed ahead is not", () -> {
            Scene s = swept();
            Trial.same(s.where(0, s.c), 0);
            Trial.same(s.crash(0, 2), 2);
            Trial.same(s.where(0, s.c), LOOSE);
            Trial.same(s.where(0, s.d), 0);
        });
        Trial.test(16, "an UNLINK of a loose copy is done when all ahead are", () -> {
            Scene s = swept();
            Trial.same(s.crash(0, 3), 0);
            Trial.same(s.where(0, s.c), 0);
        });
        Trial.test(16, "an UNLINK is not done without its bit", () -> {
            Scene s = swept();
            Trial.same(s.crash(0, 1), 1);
            Trial.same(s.where(0, s.c), LOOSE);
        });
        Trial.test(16, "an UNLINK of a pack is not done when a deed ahead is not, and is when all are", () -> {
            for (int mask = 1; mask <= 3; mask++) {
                Scene s = packed();
                s.sync(0);
                s.tick(10);
                Trial.same(s.sweep(0), 2);
                Trial.same(s.crash(0, mask), mask == 3 ? 0 : mask == 1 ? 1 : 2);
                Trial.same(s.where(0, s.c), mask == 3 ? 0 : mask == 1 ? PACKED : LOOSE + PACKED);
                Trial.same(s.packs(0), mask == 3 ? 0 : 1);
            }
        });
        Trial.test(16, "a WRITE behind an UNLINK of the same object: in their order", () -> {
            int[] due = {LOOSE, 0, LOOSE, LOOSE};
            for (int mask = 0; mask <= 3; mask++) {
                Scene s = new Scene();
                s.c = s.tellContent(0, 1);
                s.sync(0);
                s.tick(10);
                s.sweep(0);
                s.tellContent(0, 1);
                s.crash(0, mask);
                Trial.same(s.where(0, s.c), due[mask]);
            }
        });
    }

    private static void lost() {
        Trial.test(16, "a promise is taken back by a crash", () -> {
            Scene s = Scene.half();
            Trial.same(s.crash(1, 1), 1);
            Trial.same(s.where(1, s.c), 0);
            Trial.same(s.where(1, s.f), PACKED);
        });
        Trial.test(16, "what is shallow is taken back by a crash", () -> {
            Scene s = Scene.rich();
            Trial.yes(s.isShallow(1, s.w));
            s.crash(1, 1);
            Trial.no(s.isShallow(1, s.w));
        });
        Trial.test(16, "the log is taken back by a crash, and goes on from there", () -> {
            Scene s = Scene.half();
            s.sync(0);
            s.move(0, 1, s.v);
            s.crash(0, 0);
            Trial.same(s.logs(0), 1);
            s.move(0, 2, s.v);
            Trial.same(s.logs(0), 2);
        });
        Trial.test(16, "what is replaced is taken back by a crash", () -> {
            Scene s = Scene.half();
            s.w = s.version(0, s.f, 6, NONE, NONE);
            s.sync(0);
            s.replace(0, s.w, s.v);
            Trial.same(s.crash(0, 0), 1);
            Trial.same(s.replace(0, s.w, NONE), NONE);
        });
        Trial.test(16, "a log entry that a crash took is no root", () -> {
            Scene s = new Scene();
            s.v = s.root(0, 1);
            s.sync(0);
            s.tick(15);
            s.move(0, 0, s.v);
            s.crash(0, 0);
            Trial.same(s.sweep(0), 3);
        });
    }

    private static void kept() {
        Trial.test(16, "what references became stays when it was synced", () -> {
            Scene s = Scene.rich();
            s.sync(1);
            Trial.same(s.crash(1, 0), 0);
            Trial.same(s.ref(1, 0), s.t);
            Trial.same(s.logs(1), 1);
        });
        Trial.test(16, "what is promised stays when it was synced, or done", () -> {
            Scene s = Scene.rich();
            s.sync(1);
            s.crash(1, 0);
            Trial.same(s.where(1, s.d), PROMISED);
            Trial.same(s.where(1, s.v), 0);
            s = Scene.rich();
            s.crash(1, 3);
            Trial.same(s.where(1, s.c), PROMISED);
            Trial.same(s.where(1, s.d), PROMISED);
        });
        Trial.test(16, "what is shallow stays when it was synced, or done", () -> {
            Scene s = Scene.rich();
            s.sync(1);
            s.crash(1, 0);
            Trial.yes(s.isShallow(1, s.w));
            Trial.no(s.isShallow(1, s.v));
            s = Scene.rich();
            s.crash(1, 3);
            Trial.yes(s.isShallow(1, s.w));
        });
        Trial.test(16, "what is replaced stays when it was synced, or done", () -> {
            Scene s = Scene.rich();
            s.sync(0);
            s.crash(0, 0);
            Trial.same(s.replace(0, s.u, NONE), s.v);
            Trial.same(s.replace(0, s.w, NONE), NONE);
            s = Scene.rich();
            s.crash(0, ALL);
            Trial.same(s.replace(0, s.u, NONE), s.v);
        });
    }

    private static void notLost() {
        Trial.test(16, "that a loose copy is spoiled is not undone", () -> Trial.badState(() -> {
            Scene s = new Scene();
            s.c = s.tellContent(0, 1);
            s.sync(0);
            s.spoil(0, s.c);
            s.crash(0, 0);
            return s;
        }, s -> s.read(0, s.c, 0)));
        Trial.test(16, "of two loose copies the spoiled one is so after a crash, the other one is not", () -> {
            for (int bad = 0; bad < 2; bad++) {
                Scene s = Scene.busy(0, 2);
                s.sync(0);
                int spoiled = s.nth(bad);
                s.spoil(0, spoiled);
                s.crash(0, 0);
                Trial.same(s.read(0, s.nth(1 - bad), 0), 1 - bad);
                s.tellContent(0, bad);
                Trial.same(s.unsynced(0), 1);
            }
        });
        Trial.test(16, "that a loose copy not yet synced is spoiled is not undone", () -> Trial.badState(() -> {
            Scene s = new Scene();
            s.c = s.tellContent(0, 1);
            s.spoil(0, s.c);
            s.crash(0, 1);
            return s;
        }, s -> s.read(0, s.c, 0)));
        Trial.test(16, "that an entry is spoiled is not undone", () -> Trial.badState(() -> {
            Scene s = packed();
            s.spoil(0, s.c);
            s.spoil(0, s.c);
            s.crash(0, ALL);
            return s;
        }, s -> s.read(0, s.c, 0)));
    }

    private static void notLostBesides() {
        Trial.test(16, "a WRITE in place of a spoiled copy that is lost has not happened", () -> Trial.badState(() -> {
            Scene s = new Scene();
            s.c = s.tellContent(0, 1);
            s.sync(0);
            s.spoil(0, s.c);
            s.tellContent(0, 1);
            s.crash(0, 0);
            return s;
        }, s -> s.read(0, s.c, 0)));
        Trial.test(16, "a WRITE in place of a spoiled copy that is done has happened", () -> {
            Scene s = new Scene();
            s.c = s.tellContent(0, 1);
            s.spoil(0, s.c);
            s.tellContent(0, 1);
            Trial.same(s.crash(0, 2), 1);
            Trial.same(s.read(0, s.c, 0), 1);
        });
        Trial.test(16, "when an object was written last is not undone", () -> {
            Scene s = new Scene();
            s.c = s.tellContent(0, 1);
            s.sync(0);
            s.tick(15);
            s.tellContent(0, 1);
            s.crash(0, 0);
            s.tick(9);
            Trial.same(s.sweep(0), 0);
            s.tick(1);
            Trial.same(s.sweep(0), 1);
        });
        Trial.test(16, "that a pack has had its number is not undone", () -> {
            Scene s = Scene.busy(0, 1);
            Trial.same(s.pack(0, 0, 0), 0);
            Trial.same(s.crash(0, 1), 1);
            Trial.same(s.packs(0), 0);
            Trial.same(s.pack(0, 0, 0), 1);
        });
    }

    private static void besides() {
        Trial.test(16, "the pins in the store are gone, in the other one they stay", () -> {
            Scene s = Scene.rich();
            s.crash(0, ALL);
            Trial.yes(s.pin(0, s.d));
            Trial.no(s.pin(1, s.w));
        });
        Trial.test(16, "all pins are gone, of the first and of the last object", () -> {
            Scene s = Scene.busy(0, 100);
            for (int name : s.names()) {
                s.pin(0, name);
            }
            s.crash(0, ALL);
            for (int name : s.names()) {
                Trial.yes(s.pin(0, name));
            }
        });
        Trial.test(16, "the transaction in the store is gone, in the other one it stays", () -> {
            Scene s = Scene.rich();
            s.crash(0, ALL);
            Trial.same(s.expect(0, 1, NONE, s.v), 1);
            Trial.same(s.expect(1, 0, NONE, NONE), 2);
            Trial.badState(() -> {
                Scene after = Scene.rich();
                after.crash(1, ALL);
                return after;
            }, after -> after.commit(1));
        });
        Trial.test(16, "what was chosen in the store is gone, in the other one it stays", () -> {
            Scene s = Scene.rich();
            s.crash(0, ALL);
            Trial.same(s.chosen(0), 0);
            Trial.same(s.chosen(1), 1);
            Trial.same(s.choose(0, s.v), 1);
        });
        Trial.test(16, "the draft, the walk, the tick and the line are no part of a store", () -> {
            Scene s = Scene.rich();
            s.crash(0, 0);
            s.crash(1, 0);
            Trial.same(s.clear(), 2);
            Trial.same(s.walkAt(0), s.w);
            Trial.same(s.tick(1), 4);
            Trial.no(s.line());
        });
    }

    private static void ticks() {
        Trial.Maker rich = Scene::rich;
        Trial.test(17, "1 tick is the least", () -> Trial.same(new Scene().tick(1), 1));
        Trial.test(17, "100 ticks are the most", () -> {
            Scene s = new Scene();
            Trial.same(s.tick(100), 100);
            Trial.same(s.tick(100), 200);
        });
        Trial.test(17, "0 ticks are refused, and fewer", () -> Trial.badArgument(rich, s -> s.tick(0),
                s -> s.tick(-1), s -> s.tick(Integer.MIN_VALUE)));
        Trial.test(17, "101 ticks are refused, and more",
                () -> Trial.badArgument(rich, s -> s.tick(101), s -> s.tick(Integer.MAX_VALUE)));
        Trial.test(17, "the 512th call is promised too", () -> {
            Scene s = new Scene();
            for (int k = 1; k <= 512; k++) {
                Trial.same(s.tick(100), 100 * k);
            }
            Trial.same(s.calls(), 512);
        });
    }
}
