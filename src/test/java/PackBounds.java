/** The boundaries of packs, pins and sweeping: promises 31 to 37. */
final class PackBounds {
    private static final int NONE = Scene.NONE;
    private static final int ALL = 1073741823;
    private static final int LOOSE = PackSpring.LOOSE;
    private static final int PACKED = PackSpring.PACKED;

    private PackBounds() {
    }

    static void run() {
        arguments();
        whatIsPacked();
        twenty();
        windows();
        depths();
        leastSizes();
        notOffered();
        orders();
        sizes();
        packNumbers();
        entryPlaces();
        pins();
        young();
        neverWritten();
        logged();
        roots();
        looseCopies();
        sweptPacks();
        sweepOrder();
    }

    private static void arguments() {
        Trial.Maker rich = Scene::rich;
        Trial.test(31, "the window goes from 0 to 8, and so does the depth", () -> {
            Trial.same(Scene.half().pack(0, 0, 0), 0);
            Trial.same(Scene.half().pack(0, 8, 8), 0);
            Trial.same(Scene.half().pack(0, 0, 8), 0);
            Trial.same(Scene.half().pack(0, 8, 0), 0);
        });
        Trial.test(31, "a window out of its range is refused", () -> Trial.badArgument(rich, s -> s.pack(1, -1, 0),
                s -> s.pack(1, 9, 0), s -> s.pack(1, Integer.MIN_VALUE, 0), s -> s.pack(1, Integer.MAX_VALUE, 0)));
        Trial.test(31, "a depth out of its range is refused", () -> Trial.badArgument(rich, s -> s.pack(1, 0, -1),
                s -> s.pack(1, 0, 9), s -> s.pack(1, 0, Integer.MIN_VALUE), s -> s.pack(1, 0, Integer.MAX_VALUE)));
        Trial.test(31, "no such store is told ahead of a window or depth out of its range",
                () -> Trial.outOfBounds(rich, s -> s.pack(2, 9, 9), s -> s.pack(-1, -1, -1)));
        Trial.test(31, "a window or depth out of its range is told where there is nothing to pack",
                () -> Trial.badArgument(Scene::new, s -> s.pack(0, 9, 0), s -> s.pack(0, 0, 9)));
    }

    private static Scene packed() {
        Scene s = new Scene();
        s.c = s.tellContent(0, 1);
        s.pack(0, 0, 0);
        return s;
    }

    private static void whatIsPacked() {
        Trial.test(31, "nothing to pack: NONE, and no deed", () -> {
            Scene s = new Scene();
            Trial.same(s.pack(0, 0, 0), NONE);
            Trial.same(s.unsynced(0) + s.packs(0), 0);
        });
        Trial.test(31, "what has a good entry is not packed again", () -> {
            Scene s = packed();
            Trial.same(s.where(0, s.c), LOOSE + PACKED);
            Trial.same(s.pack(0, 0, 0), NONE);
        });
        Trial.test(31, "what has a spoiled loose copy alone is not packed", () -> {
            Scene s = Scene.busy(0, 1);
            s.spoil(0, s.nth(0));
            Trial.same(s.pack(0, 0, 0), NONE);
        });
        Trial.test(31, "what has a good loose copy and a spoiled entry is packed", () -> {
            Scene s = packed();
            s.spoil(0, s.c);
            s.spoil(0, s.c);
            Trial.same(s.pack(0, 0, 0), NONE);
            s.tellContent(0, 1);
            Trial.same(s.pack(0, 0, 0), 1);
        });
        Trial.test(31, "what has a good loose copy and an entry on a spoiled base is packed", () -> {
            Scene s = new Scene();
            s.c = s.tellContent(0, 0, 7, 7, 7);
            s.d = s.tellContent(0, 1, 7, 7, 7);
            s.pack(0, 1, 1);
            s.spoil(0, s.c);
            s.spoil(0, s.c);
            Trial.same(s.pack(0, 1, 1), 1);
            Trial.same(s.entries(0, 1), 1);
        });
        Trial.test(31, "what is packed alone, or promised, is not packed", () -> {
            Scene s = Scene.half();
            Trial.same(s.pack(1, 0, 0), NONE);
        });
        Trial.test(31, "the new ones alone go to the next pack", () -> {
            Scene s = packed();
            s.tellContent(0, 2);
            Trial.same(s.pack(0, 0, 0), 1);
            Trial.same(s.entries(0, 1), 1);
        });
        Trial.test(31, "to pack is one deed, and the loose copies stay", () -> {
            Scene s = Scene.busy(0, 5);
            s.sync(0);
            s.pack(0, 8, 8);
            Trial.same(s.unsynced(0), 1);
            Trial.same(s.where(0, s.nth(4)), LOOSE + PACKED);
            Trial.same(s.entries(0, 0), 5);
        });
        Trial.test(31, "100 objects go to one pack", () -> {
            Scene s = Scene.crowd(100);
            Trial.same(s.pack(0, 8, 8), 0);
            Trial.same(s.entries(0, 0), 100);
            Trial.same(s.base(0, 0, 99), NONE);
        });
    }

    private static Scene twentyMade() {
        Scene s = new Scene();
        for (int k = 0; k < 20; k++) {
            s.tellContent(0, k);
            Trial.same(s.pack(0, 0, 0), k);
        }
        s.c = s.nth(0);
        return s;
    }

    private static Scene twentyAndMore() {
        Scene s = twentyMade();
        s.d = s.tellContent(0, 50);
        return s;
    }

    private static void twenty() {
        Trial.Maker full = PackBounds::twentyAndMore;
        Trial.test(31, "20 packs are made, numbered 0 to 19", () -> {
            Scene s = twentyMade();
            Trial.same(s.packs(0), 20);
            Trial.same(s.entries(0, 19), 1);
        });
        Trial.test(31, "when 20 were made there may be nothing to pack", () -> {
            Scene s = twentyMade();
            Trial.same(s.pack(0, 0, 0), NONE);
        });
        Trial.test(31, "when 20 were made and there is something to pack it is refused",
                () -> Trial.badState(full, s -> s.pack(0, 0, 0), s -> s.pack(0, 8, 8)));
        Trial.test(31, "a window out of its range is told ahead of 20 made",
                () -> Trial.badArgument(full, s -> s.pack(0, 9, 0), s -> s.pack(0, 0, -1)));
        Trial.test(31, "20 packs of one store leave 20 of the other one", () -> {
            Scene s = twentyMade();
            s.tellContent(1, 1);
            Trial.same(s.pack(1, 0, 0), 0);
        });
        Trial.test(31, "packs that were swept have had their numbers", () -> Trial.badState(() -> {
            Scene s = twentyMade();
            s.tick(10);
            s.sweep(0);
            s.d = s.tellContent(0, 50);
            Trial.same(s.packs(0), 0);
            return s;
        }, s -> s.pack(0, 0, 0)));
        Trial.test(31, "packs that a crash took have had their numbers", () -> Trial.badState(() -> {
            Scene s = twentyMade();
            s.crash(0, 0);
            s.d = s.tellContent(0, 50);
            return s;
        }, s -> s.pack(0, 0, 0)));
    }

    /** The first entry is a base for the last one; those between are none for it. */
    private static Scene apart(int between, int window) {
        Scene s = new Scene();
        s.c = s.tellContent(0, 0, 1, 2, 3, 4);
        for (int k = 0; k < between; k++) {
            s.tellContent(0, 41 + k, 0, 0, 0, 0);
        }
        s.tellContent(0, 40, 1, 2, 3, 4);
        s.pack(0, window, 8);
        return s;
    }

    private static void windows() {
        Trial.test(31, "window 0: there are no bases", () -> {
            Scene s = apart(0, 0);
            Trial.same(s.base(0, 0, 1), NONE);
            Trial.same(s.size(0, 0), 10);
        });
        for (int window = 1; window <= 8; window++) {
            int last = window;
            Trial.test(31, "window " + window + ": the base may be so many entries ahead", () -> {
                Scene s = apart(last - 1, last);
                Trial.same(s.base(0, 0, last), s.c);
            });
            Trial.test(31, "window " + window + ": the base is not one more entry ahead", () -> {
                Scene s = apart(last, last);
                Trial.same(s.base(0, 0, last + 1), NONE);
            });
        }
        Trial.test(31, "the window counts entries of other kinds too", () -> {
            Scene s = new Scene();
            s.content(0);
            s.f = s.tellFolder(0, 0, 0, 1, 0, 2, 0);
            s.tellFolder(0, 0, 0, 1, 0);
            s.pack(0, 2, 8);
            Trial.same(s.base(0, 0, 1), NONE);
            Trial.same(s.base(0, 0, 2), s.f);
        });
    }

    /** Ten CONTENTs that are alike but for the first number, in their order. */
    private static Scene alike(int window, int depth) {
        Scene s = new Scene();
        for (int k = 0; k < 10; k++) {
            s.tellContent(0, k, 1, 2, 3, 4);
        }
        s.pack(0, window, depth);
        return s;
    }

    private static void depths() {
        for (int depth = 0; depth <= 8; depth++) {
            int most = depth;
            Trial.test(31, "depth " + depth + " is the greatest of an entry", () -> {
                Scene s = alike(1, most);
                for (int place = 0; place < 10; place++) {
                    boolean isBottom = place % (most + 1) == 0;
                    Trial.same(s.base(0, 0, place), isBottom ? NONE : s.nth(place - 1));
                }
            });
        }
        Trial.test(31, "a base that is too deep is passed over for one that is not", () -> {
            Scene s = alike(8, 1);
            for (int place = 1; place < 9; place++) {
                Trial.same(s.base(0, 0, place), s.nth(0));
            }
            Trial.same(s.base(0, 0, 9), NONE);
        });
        Trial.test(31, "of several the latest base is taken", () -> {
            Scene s = alike(8, 8);
            for (int place = 1; place < 9; place++) {
                Trial.same(s.base(0, 0, place), s.nth(place - 1));
            }
            Trial.same(s.base(0, 0, 9), s.nth(7));
        });
    }

    private static void leastSizes() {
        Trial.test(31, "the base with the least size goes ahead of the latest one", () -> {
            Scene s = new Scene();
            s.c = s.tellContent(0, 0, 1, 1, 1, 1, 1);
            s.d = s.tellContent(0, 1, 2, 1, 1, 1, 1);
            s.tellContent(0, 50, 1, 1, 1, 1, 1);
            s.pack(0, 8, 8);
            Trial.same(s.base(0, 0, 1), s.c);
            Trial.same(s.base(0, 0, 2), s.c);
            Trial.same(s.size(0, 0), 6 + 4 + 3);
        });
        Trial.test(31, "a base is not taken if the size with it is the same as without", () -> {
            Scene s = new Scene();
            s.tellContent(0, 0, 1, 1);
            s.tellContent(0, 60, 1, 1);
            s.pack(0, 8, 8);
            Trial.same(s.base(0, 0, 1), NONE);
            Trial.same(s.size(0, 0), 6);
        });
        Trial.test(31, "a base is taken if the size with it is 1 less than without", () -> {
            Scene s = new Scene();
            s.c = s.tellContent(0, 0, 1, 1, 1);
            s.tellContent(0, 60, 1, 1, 1);
            s.pack(0, 8, 8);
            Trial.same(s.base(0, 0, 1), s.c);
            Trial.same(s.size(0, 0), 7);
        });
        Trial.test(31, "a body of 2 numbers never has a base", () -> {
            Scene s = new Scene();
            s.tellContent(0, 1, 1, 1);
            s.tellContent(0, 1, 1);
            s.pack(0, 8, 8);
            Trial.same(s.base(0, 0, 1), NONE);
        });
        Trial.test(31, "a base has the same kind", () -> {
            Scene s = new Scene();
            s.content(0);
            s.tellContent(0, 0, 0, 1, 0, 2, 0);
            s.tellFolder(0, 0, 0, 1, 0, 2, 0);
            s.pack(0, 8, 8);
            Trial.same(s.base(0, 0, 2), NONE);
            Trial.same(s.size(0, 0), 12);
        });
    }

    private static void notOffered() {
        Trial.test(31, "what another store had at a fetch is no base of a later pack", () -> {
            Scene s = new Scene();
            s.tellContent(1, 77);
            s.c = s.tellContent(0, 0, 1, 2, 3, 4);
            s.v = s.version(0, s.tellFolder(0, 0, s.c), 1, NONE, NONE);
            s.move(0, 0, s.v);
            s.fetch(0, 0, 0, false);
            s.w = s.version(0, s.tellFolder(0, 0, s.c, 1, s.c), 2, NONE, NONE);
            s.move(0, 0, s.w);
            s.fetch(0, 0, 0, false);
            s.sync(0);
            s.pack(0, 8, 8);
            s.tellContent(0, 40, 1, 2, 3, 4);
            Trial.same(s.pack(0, 8, 8), 1);
            Trial.same(s.entries(0, 1), 1);
            Trial.same(s.size(0, 1), 5);
        });
        Trial.test(31, "what is in an earlier pack is no base", () -> {
            Scene s = new Scene();
            s.tellContent(0, 0, 1, 2, 3, 4);
            s.pack(0, 8, 8);
            s.tellContent(0, 40, 1, 2, 3, 4);
            s.pack(0, 8, 8);
            Trial.same(s.base(0, 1, 0), NONE);
            Trial.same(s.size(0, 1), 5);
        });
    }

    private static void orders() {
        Trial.test(31, "those with more numbers go first", () -> {
            Scene s = new Scene();
            s.tellContent(0, 0, 1, 1, 1);
            s.d = s.tellContent(0, 50, 0, 1, 1, 1);
            s.pack(0, 8, 8);
            Trial.same(s.base(0, 0, 0), NONE);
            Trial.same(s.base(0, 0, 1), s.d);
        });
        Trial.test(31, "of several the lower name goes first, whichever was told first", () -> {
            Scene s = new Scene();
            s.tellContent(0, 60, 1, 1, 1);
            s.d = s.tellContent(0, 0, 1, 1, 1);
            s.pack(0, 8, 8);
            Trial.same(s.base(0, 0, 1), s.d);
        });
        Trial.test(31, "kinds rise: a CONTENT goes ahead of a FOLDER with more numbers", () -> {
            Scene s = new Scene();
            s.c = s.tellContent(0, 5, 5, 5, 5);
            s.d = s.tellContent(0, 6, 5, 5, 5);
            s.tellFolder(0, 0, s.c, 1, s.c, 2, s.c);
            s.pack(0, 8, 8);
            Trial.same(s.base(0, 0, 1), s.c);
            Trial.same(s.base(0, 0, 2), NONE);
        });
        Trial.test(31, "VERSIONs are bases of VERSIONs", () -> {
            Scene s = new Scene();
            s.f = s.tellFolder(0);
            s.u = s.version(0, s.f, 1, NONE, NONE);
            s.v = s.version(0, s.f, 2, NONE, NONE);
            s.version(0, s.f, 3, s.u, NONE);
            s.w = s.version(0, s.f, 3, s.u, s.v);
            s.tag(0, s.w);
            s.pack(0, 8, 8);
            Trial.same(s.base(0, 0, 2), s.w);
            Trial.same(s.size(0, 0), 0 + 4 + 2 + 2 + 2 + 1);
        });
    }

    private static int sizeOfTwo(int[] longer, int[] other) {
        Scene s = new Scene();
        s.tellContent(0, longer);
        s.tellContent(0, other);
        s.pack(0, 8, 8);
        return s.size(0, 0) - longer.length;
    }

    private static void sizes() {
        Trial.test(34, "a body without numbers has size 0", () -> {
            Scene s = new Scene();
            s.content(0);
            s.pack(0, 8, 8);
            Trial.same(s.size(0, 0), 0);
            Trial.same(s.entries(0, 0), 1);
        });
        Trial.test(34, "without a base it is how many numbers the body has, 12 at the most", () -> {
            Scene s = new Scene();
            s.tellContent(0, 1, 2, 3, 4, 5, 6, 7, 8, 9, 10, 11, 12);
            s.pack(0, 8, 8);
            Trial.same(s.size(0, 0), 12);
        });
        Trial.test(34, "a body that is a beginning of its base has size 2",
                () -> Trial.same(sizeOfTwo(new int[] {1, 2, 3, 4, 5}, new int[] {1, 2, 3, 4}), 2));
        Trial.test(34, "a body that is an end of its base has size 2",
                () -> Trial.same(sizeOfTwo(new int[] {1, 2, 3, 4, 5}, new int[] {2, 3, 4, 5}), 2));
        Trial.test(34, "a body that is beginning and end of its base has size 2",
                () -> Trial.same(sizeOfTwo(new int[] {1, 2, 9, 3, 4}, new int[] {1, 2, 3, 4}), 2));
        Trial.test(34, "a number of the body is not counted twice as the same", () -> {
            Trial.same(sizeOfTwo(new int[] {1, 1, 1, 1, 1, 1}, new int[] {1, 1, 1, 1, 1}), 2);
            Trial.same(sizeOfTwo(new int[] {5, 5, 5, 6, 5, 5}, new int[] {5, 5, 5, 5, 5}), 2);
        });
        Trial.test(34, "numbers that differ in the middle are counted",
                () -> Trial.same(sizeOfTwo(new int[] {1, 2, 3, 4, 5, 6}, new int[] {1, 2, 8, 9, 5, 6}), 4));
        Trial.test(34, "what is the same behind a number that differs is no first one", () -> Trial.same(
                sizeOfTwo(new int[] {1, 2, 3, 4, 5, 6, 0}, new int[] {1, 9, 3, 9, 5, 6, 0}), 2 + 3));
        Trial.test(34, "the sizes of all entries are added up", () -> Trial.same(alike(8, 8).size(0, 0), 5 + 9 * 3));
    }

    private static void packNumbers() {
        Trial.Maker rich = Scene::rich;
        Trial.test(32, "there is none at first, and those that are in the store count", () -> {
            Scene s = new Scene();
            Trial.same(s.packs(0), 0);
            s.tellContent(0, 1);
            s.pack(0, 0, 0);
            Trial.same(s.packs(0), 1);
            Trial.same(s.packs(1), 0);
            s.tick(10);
            s.sweep(0);
            Trial.same(s.packs(0), 0);
        });
        Trial.test(33, "the number next to the last one is no pack, nor is -1", () -> Trial.outOfBounds(rich,
                s -> s.entries(0, 1), s -> s.entries(0, -1), s -> s.entries(0, 20),
                s -> s.entries(0, Integer.MAX_VALUE), s -> s.entries(0, Integer.MIN_VALUE)));
        Trial.test(34, "the number next to the last one is no pack, nor is -1", () -> Trial.outOfBounds(rich,
                s -> s.size(0, 1), s -> s.size(0, -1), s -> s.size(0, 20), s -> s.size(0, Integer.MAX_VALUE),
                s -> s.size(0, Integer.MIN_VALUE)));
        Trial.test(35, "the number next to the last one is no pack, nor is -1", () -> Trial.outOfBounds(rich,
                s -> s.base(0, 1, 0), s -> s.base(0, -1, 0), s -> s.base(0, 20, 0),
                s -> s.base(0, Integer.MAX_VALUE, 0), s -> s.base(0, Integer.MIN_VALUE, 0)));
        Trial.test(33, "with 20 packs there is no pack 20", () -> Trial.outOfBounds(PackBounds::twentyMade,
                s -> s.entries(0, 20), s -> s.size(0, 20), s -> s.base(0, 20, 0)));
        Trial.test(33, "a pack that was swept is no pack by now", () -> Trial.outOfBounds(() -> {
            Scene s = packed();
            s.tick(10);
            s.sweep(0);
            return s;
        }, s -> s.entries(0, 0), s -> s.size(0, 0), s -> s.base(0, 0, 0)));
        Trial.test(33, "a pack that a crash took is no pack by now", () -> Trial.outOfBounds(() -> {
            Scene s = packed();
            s.crash(0, 1);
            return s;
        }, s -> s.entries(0, 0), s -> s.size(0, 0), s -> s.base(0, 0, 0)));
        Trial.test(33, "a pack whose UNLINK a crash took back is a pack again", () -> {
            Scene s = packed();
            s.sync(0);
            s.tick(10);
            s.sweep(0);
            s.crash(0, 0);
            Trial.same(s.entries(0, 0), 1);
            Trial.same(s.packs(0), 1);
        });
    }

    private static void entryPlaces() {
        Trial.test(35, "the first and the last entry have a place", () -> {
            Scene s = apart(0, 1);
            Trial.same(s.base(0, 0, 0), NONE);
            Trial.same(s.base(0, 0, 1), s.c);
        });
        Trial.test(35, "there is no entry below 0 or beyond the last one", () -> Trial.outOfBounds(() -> apart(0, 1),
                s -> s.base(0, 0, -1), s -> s.base(0, 0, 2), s -> s.base(0, 0, Integer.MAX_VALUE),
                s -> s.base(0, 0, Integer.MIN_VALUE)));
    }

    private static void pins() {
        Trial.test(36, "it is pinned, no more, and again", () -> {
            Scene s = Scene.half();
            Trial.yes(s.pin(0, s.c));
            Trial.no(s.pin(0, s.c));
            Trial.yes(s.pin(0, s.c));
        });
        Trial.test(36, "it is pinned in that store alone", () -> {
            Scene s = Scene.half();
            s.pin(0, s.c);
            Trial.yes(s.pin(1, s.c));
        });
        Trial.test(36, "what is not there may be pinned, and its parts are roots then", () -> {
            Scene s = new Scene();
            s.c = s.tellContent(0, 1);
            s.sync(0);
            s.f = s.tellFolder(0, 0, s.c);
            s.crash(0, 0);
            Trial.yes(s.pin(0, s.f));
            s.tick(10);
            Trial.same(s.sweep(0), 0);
            Trial.no(s.pin(0, s.f));
            Trial.same(s.sweep(0), 1);
        });
        Trial.test(36, "each of 100 objects may be pinned", () -> {
            Scene s = Scene.crowd(100);
            for (int name : s.names()) {
                Trial.yes(s.pin(0, name));
            }
            s.tick(100);
            Trial.same(s.sweep(0), 0);
        });
    }

    private static void young() {
        Trial.test(37, "what was written last 9 ticks ago is a root, 10 ticks ago it is none", () -> {
            Scene s = Scene.busy(0, 1);
            s.tick(9);
            Trial.same(s.sweep(0), 0);
            s.tick(1);
            Trial.same(s.sweep(0), 1);
            Trial.same(s.where(0, s.nth(0)), 0);
        });
        Trial.test(37, "it was written last when it was told last, also if nothing was written", () -> {
            Scene s = Scene.busy(0, 1);
            s.tick(9);
            s.tellContent(0, 0);
            s.tick(9);
            Trial.same(s.sweep(0), 0);
            s.tick(1);
            Trial.same(s.sweep(0), 1);
        });
        Trial.test(37, "what is there and spoiled is a root as long as another one", () -> {
            Scene s = Scene.busy(0, 1);
            s.tick(50);
            s.f = s.tellFolder(0, 0, s.nth(0));
            s.spoil(0, s.f);
            s.tick(9);
            Trial.same(s.sweep(0), 0);
            s.tick(1);
            Trial.same(s.sweep(0), 2);
        });
        Trial.test(37, "what it reaches is reached from it, however old", () -> {
            Scene s = Scene.busy(0, 1);
            s.tick(50);
            s.tellFolder(0, 0, s.nth(0));
            s.tick(9);
            Trial.same(s.sweep(0), 0);
            s.tick(1);
            Trial.same(s.sweep(0), 2);
        });
    }

    private static void neverWritten() {
        Trial.test(37, "what was written last but is not there is no root", () -> {
            Scene s = Scene.busy(0, 1);
            s.sync(0);
            s.tick(50);
            s.tellFolder(0, 0, s.nth(0));
            s.crash(0, 0);
            Trial.same(s.sweep(0), 1);
        });
        Trial.test(37, "what came in a pack alone was never written", () -> {
            Scene s = Scene.half();
            s.crash(1, 1);
            Trial.same(s.packs(1), 1);
            Trial.same(s.sweep(1), 1);
        });
        Trial.test(37, "what came in a pack alone was never written, though others were", () -> {
            Scene s = new Scene();
            s.c = s.tellContent(1, 50);
            s.v = s.root(0, 1);
            s.move(0, 0, s.v);
            s.sync(1);
            s.fetch(0, 0, 0, false);
            s.crash(1, 1);
            Trial.same(s.sweep(1), 1);
            Trial.same(s.where(1, s.c), LOOSE);
            Trial.same(s.where(1, s.v), 0);
        });
        Trial.test(37, "it was written last in that store alone", () -> {
            Scene s = Scene.busy(0, 1);
            s.tick(9);
            s.tellContent(1, 0);
            s.tick(1);
            Trial.same(s.sweep(0), 1);
            Trial.same(s.sweep(1), 0);
        });
        Trial.test(37, "what is mended was written last then", () -> {
            Scene s = Scene.half();
            s.sync(0);
            s.pack(1, 0, 0);
            s.read(1, s.c, 0);
            s.move(0, 0, NONE);
            s.tick(50);
            s.sync(0);
            s.move(0, 0, s.v);
            s.spoil(0, s.c);
            Trial.same(s.mend(0), 1);
            Trial.same(s.crash(0, 2), 1);
            s.tick(9);
            Trial.same(s.sweep(0), 2);
            Trial.same(s.where(0, s.c), LOOSE);
            s.tick(1);
            Trial.same(s.sweep(0), 1);
        });
    }

    private static void logged() {
        Trial.test(37, "what an entry of 19 ticks ago names, old, is a root, of 20 ticks ago not", () -> {
            Scene s = Scene.half();
            s.tick(50);
            s.move(0, 0, NONE);
            s.tick(19);
            Trial.same(s.sweep(0), 0);
            s.tick(1);
            Trial.same(s.sweep(0), 3);
        });
        Trial.test(37, "what an entry of 19 ticks ago names, new, is a root, of 20 ticks ago not", () -> {
            Scene s = Scene.half();
            s.version(0, s.f, 9, NONE, NONE);
            s.w = s.nth(3);
            s.tick(50);
            s.expect(0, 0, s.v, s.w);
            s.commit(0);
            s.expect(0, 0, s.w, s.v);
            s.commit(0);
            s.tick(19);
            Trial.same(s.sweep(0), 0);
            s.tick(1);
            Trial.same(s.sweep(0), 1);
            Trial.same(s.where(0, s.w), 0);
        });
        Trial.test(37, "the new name alone of an entry is a root", () -> {
            Scene s = Scene.half();
            s.move(1, 0, NONE);
            s.tick(19);
            Trial.same(s.sweep(1), 0);
            s.tick(1);
            Trial.same(s.sweep(1), 1);
        });
        Trial.test(37, "NONE in an entry is no root, nor the first object for it", () -> {
            Scene s = new Scene();
            s.c = s.tellContent(0, 9);
            s.v = s.root(0, 1);
            s.move(0, 0, s.v);
            s.tick(10);
            Trial.same(s.sweep(0), 1);
            Trial.same(s.where(0, s.c), 0);
        });
        Trial.test(37, "a commit that changes nothing makes no root", () -> {
            Scene s = Scene.half();
            s.move(0, 0, NONE);
            s.tick(15);
            s.expect(0, 0, NONE, NONE);
            s.commit(0);
            s.tick(5);
            Trial.same(s.sweep(0), 3);
        });
    }

    private static void roots() {
        Trial.test(37, "each of the references 0 to 5 is a root, by a TAG too", () -> {
            for (int ref = 0; ref < 6; ref++) {
                Scene s = Scene.half();
                s.t = s.tag(0, s.v);
                s.move(0, ref, s.t);
                s.tick(100);
                Trial.same(s.sweep(0), 0);
            }
        });
        Trial.test(37, "a VERSION that is replaced is a root, and that by which", () -> {
            Scene s = new Scene();
            s.u = s.root(0, 1);
            s.v = s.root(0, 2);
            s.w = s.root(0, 3);
            s.replace(0, s.u, s.v);
            s.tick(10);
            Trial.same(s.sweep(0), 3);
            Trial.same(s.where(0, s.u) + s.where(0, s.v), 2);
            Trial.same(s.where(0, s.w), 0);
            s.replace(0, s.u, NONE);
            Trial.same(s.sweep(0), 6);
        });
        Trial.test(37, "what is chosen, or in the transaction, is no root", () -> {
            Scene s = new Scene();
            s.v = s.root(0, 1);
            s.choose(0, s.v);
            s.expect(0, 0, NONE, s.v);
            s.tick(10);
            Trial.same(s.sweep(0), 3);
            Trial.same(s.chosen(0), 1);
        });
        Trial.test(37, "the roots of the other store do not count", () -> {
            Scene s = Scene.half();
            s.tick(10);
            s.move(0, 0, NONE);
            s.tick(20);
            Trial.same(s.sweep(0), 3);
            Trial.same(s.sweep(1), 0);
        });
        Trial.test(37, "the parents of what is shallow are not reached", () -> {
            Scene s = new Scene();
            s.v = s.root(0, 1);
            s.w = s.after(0, 2, s.v, NONE);
            s.move(0, 0, s.v);
            s.fetch(0, 0, 0, false);
            s.move(1, 0, NONE);
            s.move(0, 0, s.w);
            s.fetch(0, 0, 1, false);
            Trial.yes(s.isShallow(1, s.w));
            s.tick(20);
            Trial.same(s.sweep(1), 1);
            Trial.same(s.where(1, s.v), 0);
            Trial.same(s.where(1, s.w), PACKED);
        });
    }

    private static void looseCopies() {
        Trial.test(37, "a loose copy with a good entry goes, though it is reached", () -> {
            Scene s = Scene.half();
            s.pack(0, 0, 0);
            Trial.same(s.sweep(0), 3);
            Trial.same(s.where(0, s.c), PACKED);
            Trial.same(s.sweep(0), 0);
        });
        Trial.test(37, "a loose copy with a spoiled entry stays, if it is reached", () -> {
            Scene s = Scene.half();
            s.pack(0, 0, 0);
            s.spoil(0, s.c);
            s.spoil(0, s.c);
            s.tellContent(0, 1, 2, 3);
            Trial.same(s.sweep(0), 2);
            Trial.same(s.where(0, s.c), LOOSE + PACKED);
        });
        Trial.test(37, "a spoiled loose copy goes or stays as a good one does", () -> {
            Scene s = Scene.half();
            s.spoil(0, s.c);
            Trial.same(s.sweep(0), 0);
            s.move(0, 0, NONE);
            s.tick(20);
            Trial.same(s.sweep(0), 3);
        });
        Trial.test(37, "a loose copy that is not reached goes with its pack: two UNLINKs", () -> {
            Scene s = packed();
            s.tick(10);
            Trial.same(s.sweep(0), 2);
            Trial.same(s.unsynced(0), 4);
        });
        Trial.test(37, "an empty store, and one that was swept, make none", () -> {
            Scene s = packed();
            s.tick(10);
            s.sweep(0);
            Trial.same(s.sweep(0), 0);
            Trial.same(s.sweep(1), 0);
        });
        Trial.test(37, "more than 30 UNLINKs in one go", () -> {
            Scene s = Scene.busy(0, 31);
            s.sync(0);
            s.tick(10);
            Trial.same(s.sweep(0), 31);
            Trial.same(s.unsynced(0), 1);
        });
    }

    private static void sweptPacks() {
        Trial.test(37, "a pack stays with one object that is reached", () -> {
            Scene s = Scene.busy(0, 5);
            s.pack(0, 0, 0);
            s.tick(10);
            s.pin(0, s.nth(4));
            Trial.same(s.sweep(0), 5);
            Trial.same(s.entries(0, 0), 5);
            s.pin(0, s.nth(4));
            Trial.same(s.sweep(0), 1);
        });
        Trial.test(37, "a pack stays with an entry that is spoiled, if it is reached", () -> {
            Scene s = packed();
            s.spoil(0, s.c);
            s.spoil(0, s.c);
            s.pin(0, s.c);
            s.tick(10);
            Trial.same(s.sweep(0), 0);
            Trial.same(s.packs(0), 1);
        });
        Trial.test(37, "of several packs those go of which nothing is reached", () -> {
            Scene s = new Scene();
            for (int k = 0; k < 3; k++) {
                s.tellContent(0, k);
                s.pack(0, 0, 0);
            }
            s.tick(10);
            s.pin(0, s.nth(1));
            Trial.same(s.sweep(0), 3 + 2);
            Trial.same(s.packs(0), 1);
            Trial.same(s.entries(0, 1), 1);
        });
    }

    private static void sweepOrder() {
        Trial.test(37, "loose copies go by rising names, then packs by rising numbers", () -> {
            for (int done = 0; done <= 5; done++) {
                Scene s = new Scene();
                s.tellContent(0, 7);
                s.pack(0, 0, 0);
                s.tellContent(0, 3);
                s.tellContent(0, 5);
                s.pack(0, 0, 0);
                s.sync(0);
                s.tick(10);
                Trial.same(s.sweep(0), 5);
                Trial.same(s.crash(0, (1 << done) - 1), 5 - done);
                Trial.same(s.where(0, 300) & LOOSE, done > 0 ? 0 : LOOSE);
                Trial.same(s.where(0, 500) & LOOSE, done > 1 ? 0 : LOOSE);
                Trial.same(s.where(0, 700) & LOOSE, done > 2 ? 0 : LOOSE);
                Trial.same(s.where(0, 700) & PACKED, done > 3 ? 0 : PACKED);
                Trial.same(s.where(0, 300) & PACKED, done > 4 ? 0 : PACKED);
            }
        });
        Trial.test(37, "all UNLINKs may be done at once", () -> {
            Scene s = packed();
            s.tick(10);
            s.sweep(0);
            Trial.same(s.crash(0, ALL), 0);
            Trial.same(s.where(0, s.c), 0);
        });
    }
}
