/** The boundaries of what is spoiled, missing and mended: promises 41 to 44. */
final class MendBounds {
    private static final int NONE = Scene.NONE;
    private static final int LOOSE = PackSpring.LOOSE;
    private static final int PACKED = PackSpring.PACKED;
    private static final int PROMISED = PackSpring.PROMISED;

    private MendBounds() {
    }

    static void run() {
        spoiling();
        spoilingInPacks();
        notSpoiled();
        missing();
        notMissing();
        places();
        mending();
        notMended();
    }

    /** Two packs in store 1 and a loose copy of all: a CONTENT, its FOLDER and its VERSION. */
    private static Scene thrice() {
        Scene s = new Scene();
        s.v = s.root(0, 6);
        s.c = s.nth(0);
        s.f = s.nth(1);
        s.move(0, 0, s.v);
        s.fetch(0, 0, 0, false);
        s.move(1, 0, NONE);
        s.fetch(0, 0, 0, false);
        return s;
    }

    private static void spoiling() {
        Trial.test(41, "the loose copy goes first: NONE", () -> {
            Scene s = Scene.half();
            s.pack(0, 0, 0);
            Trial.same(s.spoil(0, s.c), NONE);
            Trial.same(s.spoil(0, s.c), 0);
        });
        Trial.test(41, "then the entry in the pack with the greatest number, down to the least", () -> {
            Scene s = thrice();
            Trial.same(s.spoil(1, s.c), 1);
            Trial.same(s.spoil(1, s.c), 0);
            s.tellContent(1, 6, 6, 6);
            Trial.same(s.spoil(1, s.c), NONE);
        });
    }

    private static void spoilingInPacks() {
        Trial.test(41, "a pack without the object is passed over", () -> {
            Scene s = Scene.busy(0, 1);
            s.pack(0, 0, 0);
            s.tellContent(0, 50);
            s.pack(0, 0, 0);
            Trial.same(s.spoil(0, s.nth(0)), NONE);
            Trial.same(s.spoil(0, s.nth(0)), 0);
        });
        Trial.test(41, "of three entries of a pack the one that is told of is spoiled", () -> {
            for (int bad = 0; bad < 3; bad++) {
                Scene s = new Scene();
                int[] all = {s.tellContent(0, 7), s.tellContent(0, 3), s.tellContent(0, 5)};
                s.pack(0, 0, 0);
                for (int name : all) {
                    Trial.same(s.spoil(0, name), NONE);
                }
                Trial.same(s.spoil(0, all[bad]), 0);
                Trial.same(s.read(0, all[(bad + 1) % 3], 0), all[(bad + 1) % 3] / 100);
                Trial.same(s.spoil(0, all[(bad + 1) % 3]), 0);
                Trial.same(s.read(0, all[(bad + 2) % 3], 0), all[(bad + 2) % 3] / 100);
                Trial.same(s.spoil(0, all[(bad + 2) % 3]), 0);
            }
        });
        Trial.test(41, "the entry of a pack of one is spoiled, in whichever pack", () -> Trial.badState(() -> {
            Scene s = Scene.busy(0, 1);
            s.pack(0, 0, 0);
            s.c = s.tellContent(0, 50);
            Trial.same(s.pack(0, 0, 0), 1);
            Trial.same(s.spoil(0, s.c), NONE);
            Trial.same(s.spoil(0, s.c), 1);
            return s;
        }, s -> s.read(0, s.c, 0), s -> s.spoil(0, s.c)));
        Trial.test(41, "an entry on a spoiled base is not spoiled itself, and may be", () -> {
            Scene s = new Scene();
            s.c = s.tellContent(0, 0, 7, 7, 7);
            s.d = s.tellContent(0, 1, 7, 7, 7);
            s.pack(0, 1, 1);
            s.spoil(0, s.c);
            s.spoil(0, s.d);
            Trial.same(s.spoil(0, s.c), 0);
            Trial.same(s.spoil(0, s.d), 0);
        });
        Trial.test(41, "a pack that was swept has no entry to spoil", () -> Trial.badState(() -> {
            Scene s = Scene.busy(0, 1);
            s.c = s.nth(0);
            s.pack(0, 0, 0);
            s.tick(10);
            s.sweep(0);
            return s;
        }, s -> s.spoil(0, s.c)));
        Trial.test(41, "copies of other objects, and of the other store, stay good", () -> {
            Scene s = thrice();
            s.spoil(1, s.c);
            s.spoil(1, s.c);
            Trial.same(s.read(0, s.c, 0), 6);
            Trial.same(s.read(1, s.f, 1), s.c);
        });
    }

    private static void notSpoiled() {
        Trial.test(41, "what has no copy there is refused",
                () -> Trial.badState(Scene::rich, s -> s.spoil(1, s.v), s -> s.spoil(1, s.u)));
        Trial.test(41, "what is promised alone is refused", () -> Trial.badState(Scene::half, s -> s.spoil(1, s.c)));
        Trial.test(41, "what has spoiled copies alone is refused", () -> Trial.badState(() -> {
            Scene s = Scene.half();
            s.pack(0, 0, 0);
            s.spoil(0, s.c);
            s.spoil(0, s.c);
            return s;
        }, s -> s.spoil(0, s.c)));
        Trial.test(41, "no such store is told ahead of no copy",
                () -> Trial.outOfBounds(Scene::half, s -> s.spoil(2, s.c), s -> s.spoil(1, NONE)));
    }

    private static void missing() {
        Trial.test(42, "what is reached and spoiled is missing", () -> {
            Scene s = Scene.half();
            s.spoil(0, s.c);
            Trial.same(s.missing(0), 1);
            s.spoil(0, s.f);
            s.spoil(0, s.v);
            Trial.same(s.missing(0), 3);
            Trial.same(s.missing(1), 0);
        });
        Trial.test(42, "what is promised, there and spoiled is missing", () -> {
            Scene s = Scene.half();
            s.read(1, s.c, 0);
            s.spoil(1, s.c);
            Trial.same(s.missing(1), 1);
        });
        Trial.test(42, "an entry and all on it are missing with the base", () -> {
            Scene s = new Scene();
            s.c = s.tellContent(0, 0, 7, 7, 7);
            s.d = s.tellContent(0, 1, 7, 7, 7);
            s.v = s.version(0, s.tellFolder(0, 0, s.c, 1, s.d), 1, NONE, NONE);
            s.move(0, 0, s.v);
            s.fetch(0, 0, 0, false);
            Trial.same(s.base(1, 0, 1), s.c);
            s.spoil(1, s.c);
            Trial.same(s.missing(1), 2);
        });
        Trial.test(42, "a TAG, and each reference from 0 to 5, reaches", () -> {
            for (int ref = 0; ref < 6; ref++) {
                Scene s = Scene.half();
                s.move(0, 0, NONE);
                s.t = s.tag(0, s.v);
                s.move(0, ref, s.t);
                s.spoil(0, s.t);
                s.spoil(0, s.c);
                Trial.same(s.missing(0), 2);
            }
        });
    }

    private static void notMissing() {
        Trial.test(42, "in an empty store nothing is missing",
                () -> Trial.same(new Scene().missing(0) + new Scene().missing(1), 0));
        Trial.test(42, "what is promised and not there is not missing", () -> {
            Scene s = Scene.half();
            Trial.same(s.where(1, s.c), PROMISED);
            Trial.same(s.missing(1), 0);
        });
        Trial.test(42, "what is promised and not there is not missing, whatever is promised besides", () -> {
            Scene s = Scene.busy(0, 1);
            s.v = s.root(0, 5);
            s.move(0, 0, s.v);
            s.fetch(0, 0, 0, true);
            Trial.same(s.where(1, s.nth(0)), 0);
            Trial.same(s.where(1, s.nth(1)), PROMISED);
            Trial.same(s.missing(1), 0);
        });
        Trial.test(42, "what has one good copy is not missing", () -> {
            Scene s = Scene.half();
            s.pack(0, 0, 0);
            s.spoil(0, s.c);
            Trial.same(s.missing(0), 0);
            s.spoil(0, s.c);
            Trial.same(s.missing(0), 1);
        });
        Trial.test(42, "what no reference reaches is not missing, pinned or logged or replaced or chosen", () -> {
            Scene s = Scene.half();
            s.w = s.version(0, s.f, 9, NONE, NONE);
            s.pin(0, s.w);
            s.replace(0, s.w, s.v);
            s.choose(0, s.w);
            s.move(0, 1, s.w);
            s.move(0, 1, NONE);
            s.spoil(0, s.w);
            Trial.same(s.missing(0), 0);
        });
        Trial.test(42, "what is beyond a shallow VERSION is not missing", () -> {
            Scene s = Scene.rich();
            Trial.same(s.where(1, s.v), 0);
            Trial.same(s.missing(1), 0);
        });
    }

    private static Scene twoMissing() {
        Scene s = thrice();
        s.spoil(0, s.v);
        s.spoil(0, s.f);
        return s;
    }

    private static void places() {
        Trial.test(43, "the lowest name has place 0, and they rise", () -> {
            Scene s = twoMissing();
            Trial.same(s.missingAt(0, 0), Math.min(s.v, s.f));
            Trial.same(s.missingAt(0, 1), Math.max(s.v, s.f));
        });
        Trial.test(43, "there is no place below 0 or beyond the last one",
                () -> Trial.outOfBounds(MendBounds::twoMissing, s -> s.missingAt(0, -1), s -> s.missingAt(0, 2),
                        s -> s.missingAt(0, Integer.MAX_VALUE), s -> s.missingAt(0, Integer.MIN_VALUE)));
        Trial.test(43, "where all are missing there is no place beyond the last one", () -> Trial.outOfBounds(() -> {
            Scene s = Scene.half();
            s.spoil(0, s.c);
            s.spoil(0, s.f);
            s.spoil(0, s.v);
            return s;
        }, s -> s.missingAt(0, 3), s -> s.missingAt(0, -1)));
        Trial.test(43, "where nothing is missing there is no place 0",
                () -> Trial.outOfBounds(Scene::half, s -> s.missingAt(0, 0), s -> s.missingAt(1, 0)));
        Trial.test(43, "all that can be missing has a place", () -> {
            Scene s = new Scene();
            int[] chain = s.chain(0, s.tellFolder(0), 98);
            int tag = s.tag(0, chain[97]);
            s.move(0, 0, tag);
            for (int name : s.names()) {
                s.spoil(0, name);
            }
            Trial.same(s.missing(0), 100);
            for (int place = 1; place < 100; place++) {
                Trial.yes(s.missingAt(0, place - 1) < s.missingAt(0, place));
            }
        });
    }

    private static void mending() {
        Trial.test(44, "nothing is missing: none is written", () -> {
            Scene s = thrice();
            Trial.same(s.mend(0), 0);
            Trial.same(s.mend(1), 0);
            Trial.same(s.unsynced(0), 4);
        });
        Trial.test(44, "each with a good copy in the other store is written, by one deed each", () -> {
            Scene s = twoMissing();
            Trial.same(s.mend(0), 2);
            Trial.same(s.unsynced(0), 6);
            Trial.same(s.missing(0), 0);
            Trial.same(s.where(0, s.v), LOOSE);
            Trial.same(s.mend(0), 0);
        });
        Trial.test(44, "they are written by rising names, whichever was told first", () -> {
            for (int done = 0; done <= 3; done++) {
                Scene s = new Scene();
                int[] all = {s.tellContent(0, 7), s.tellContent(0, 3), s.tellContent(0, 5)};
                s.move(0, 0, s.version(0, s.tellFolder(0, 0, all[0], 1, all[1], 2, all[2]), 1, NONE, NONE));
                s.fetch(0, 0, 0, false);
                for (int name : all) {
                    s.spoil(0, name);
                }
                s.sync(0);
                Trial.same(s.mend(0), 3);
                Trial.same(s.crash(0, (1 << done) - 1), 3 - done);
                Trial.same(s.missing(0), 3 - done);
                for (int place = 0; place < 3 - done; place++) {
                    Trial.same(s.missingAt(0, place), 100 * (3 + 2 * (place + done)));
                }
            }
        });
        Trial.test(44, "a spoiled entry stays, a loose copy comes beside it", () -> {
            Scene s = Scene.half();
            s.spoil(1, s.f);
            Trial.same(s.mend(1), 1);
            Trial.same(s.where(1, s.f), LOOSE + PACKED);
            Trial.same(s.read(1, s.f, 1), s.c);
        });
        Trial.test(44, "a good entry of the other store is enough", () -> {
            Scene s = thrice();
            s.spoil(0, s.c);
            Trial.same(s.where(1, s.c), PACKED);
            Trial.same(s.mend(0), 1);
        });
        Trial.test(44, "the other store is not mended by that", () -> {
            Scene s = twoMissing();
            s.spoil(1, s.c);
            s.spoil(1, s.c);
            s.mend(0);
            Trial.same(s.missing(1), 1);
            Trial.same(s.mend(1), 1);
            Trial.same(s.missing(1), 0);
        });
    }

    private static void notMended() {
        Trial.test(44, "with the line down it is refused, also if nothing is missing", () -> {
            Trial.badState(() -> {
                Scene s = twoMissing();
                s.line();
                return s;
            }, s -> s.mend(0), s -> s.mend(1));
            Trial.badState(() -> {
                Scene s = new Scene();
                s.line();
                return s;
            }, s -> s.mend(0));
        });
        Trial.test(44, "no such store is told ahead of a line that is down", () -> Trial.outOfBounds(() -> {
            Scene s = twoMissing();
            s.line();
            return s;
        }, s -> s.mend(2), s -> s.mend(-1)));
        Trial.test(44, "what the other store has spoiled, or not at all, stays missing", () -> {
            Scene s = twoMissing();
            s.spoil(1, s.v);
            s.spoil(1, s.v);
            Trial.same(s.mend(0), 1);
            Trial.same(s.missingAt(0, 0), s.v);
            Scene lone = new Scene();
            lone.v = lone.root(0, 1);
            lone.move(0, 0, lone.v);
            lone.spoil(0, lone.v);
            Trial.same(lone.mend(0), 0);
            Trial.same(lone.missing(0), 1);
        });
        Trial.test(44, "what is promised and not there is not written", () -> {
            Scene s = Scene.half();
            Trial.same(s.mend(1), 0);
            Trial.same(s.where(1, s.c), PROMISED);
        });
        Trial.test(44, "what no reference reaches is not written", () -> {
            Scene s = thrice();
            s.move(0, 0, NONE);
            s.spoil(0, s.c);
            Trial.same(s.mend(0), 0);
        });
    }
}
