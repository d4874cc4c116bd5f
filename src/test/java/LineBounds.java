/** The boundaries of the line, fetching and pushing: promises 38 to 40. */
final class LineBounds {
    private static final int NONE = Scene.NONE;
    private static final int LOOSE = PackSpring.LOOSE;
    private static final int PACKED = PackSpring.PACKED;
    private static final int PROMISED = PackSpring.PROMISED;

    private LineBounds() {
    }

    static void run() {
        lines();
        badFetches();
        refusedFetches();
        limits();
        steps();
        wanted();
        had();
        halves();
        promisedByHalf();
        promised();
        promisedOn();
        noGoodCopy();
        twentyPacks();
        depthsAndWindows();
        offered();
        offeredOrder();
        notes();
        cuts();
        cutsThatStay();
        pushes();
        refusedPushes();
    }

    private static void lines() {
        Trial.test(38, "it goes down, if it is up, and up, if it is down", () -> {
            Scene s = new Scene();
            Trial.no(s.line());
            Trial.yes(s.line());
            Trial.no(s.line());
        });
        Trial.test(38, "it is one line for both stores, and up again it serves", () -> {
            Scene s = Scene.half();
            s.line();
            s.line();
            Trial.same(s.read(1, s.c, 0), 1);
            Trial.same(s.fetch(1, 0, 0, false), 0);
        });
    }

    private static Scene down() {
        Scene s = Scene.rich();
        s.line();
        return s;
    }

    private static void badFetches() {
        Trial.Maker rich = Scene::rich;
        Trial.test(39, "there is no reference -1 and no reference 6", () -> Trial.outOfBounds(rich,
                s -> s.fetch(0, -1, 0, false), s -> s.fetch(0, 6, 0, false),
                s -> s.fetch(0, Integer.MAX_VALUE, 0, true), s -> s.fetch(0, Integer.MIN_VALUE, 0, true)));
        Trial.test(39, "a limit below 0 or above 20 is refused", () -> Trial.badArgument(rich,
                s -> s.fetch(0, 0, -1, false), s -> s.fetch(0, 0, 21, false),
                s -> s.fetch(0, 0, Integer.MAX_VALUE, true), s -> s.fetch(0, 0, Integer.MIN_VALUE, true)));
        Trial.test(39, "no such store or reference is told ahead of a limit out of its range",
                () -> Trial.outOfBounds(rich, s -> s.fetch(2, 0, 21, false), s -> s.fetch(0, 6, -1, false)));
        Trial.test(39, "a limit out of its range is told ahead of a line that is down",
                () -> Trial.badArgument(LineBounds::down, s -> s.fetch(0, 0, 21, false)));
        Trial.test(39, "a limit out of its range is told ahead of a reference that is NONE",
                () -> Trial.badArgument(rich, s -> s.fetch(0, 5, 21, false)));
        Trial.test(39, "no such reference is told ahead of a line that is down",
                () -> Trial.outOfBounds(LineBounds::down, s -> s.fetch(0, 6, 0, false), s -> s.push(0, 6)));
    }

    private static void refusedFetches() {
        Trial.test(39, "with the line down nothing is fetched",
                () -> Trial.badState(LineBounds::down, s -> s.fetch(0, 0, 0, false), s -> s.fetch(1, 0, 1, true)));
        Trial.test(39, "a reference that is NONE is not fetched", () -> Trial.badState(Scene::rich,
                s -> s.fetch(0, 5, 0, false), s -> s.fetch(1, 1, 0, false), s -> s.fetch(0, 1, 20, true)));
        Trial.test(39, "the last reference is fetched, for the same number", () -> {
            Scene s = Scene.half();
            s.move(0, 5, s.v);
            Trial.same(s.fetch(0, 5, 0, true), 0);
            Trial.same(s.ref(1, 5), s.v);
        });
        Trial.test(39, "from store 1 it is fetched for store 0", () -> {
            Scene s = new Scene();
            s.v = s.root(1, 1);
            s.move(1, 2, s.v);
            Trial.same(s.fetch(1, 2, 0, false), 3);
            Trial.same(s.ref(0, 2), s.v);
            Trial.same(s.where(0, s.v), PACKED);
            Trial.same(s.unsynced(0), 2);
        });
    }

    /** VERSIONs in a row in store 0, the last one as reference 0. */
    private static Scene row(int count) {
        Scene s = new Scene();
        int[] chain = s.chain(0, s.tellFolder(0), count);
        s.move(0, 0, chain[count - 1]);
        return s;
    }

    private static void limits() {
        for (int limit = 1; limit <= 20; limit++) {
            int most = limit;
            Trial.test(39, "limit " + limit + ": so many versions in a row are wanted", () -> {
                Scene s = row(22);
                Trial.same(s.fetch(0, 0, most, false), most + 1);
                Trial.same(s.where(1, s.nth(23 - most)), PACKED);
                Trial.yes(s.isShallow(1, s.nth(23 - most)));
                Trial.same(s.where(1, s.nth(22 - most)), 0);
            });
        }
        Trial.test(39, "limit 0 is none: all are wanted", () -> {
            Scene s = row(22);
            Trial.same(s.fetch(0, 0, 0, false), 23);
            Trial.no(s.isShallow(1, s.nth(1)));
        });
        Trial.test(39, "a limit of as many as there are, or more, makes nothing shallow", () -> {
            for (int limit = 3; limit <= 4; limit++) {
                Scene s = row(3);
                Trial.same(s.fetch(0, 0, limit, false), 4);
                Trial.no(s.isShallow(1, s.nth(1)));
                Trial.yes(s.isWhole(1, s.nth(3)));
            }
        });
        Trial.test(39, "100 objects are sent at the most", () -> {
            Scene s = new Scene();
            int[] chain = s.chain(0, s.tellFolder(0), 98);
            int tag = s.tag(0, chain[97]);
            s.move(0, 0, tag);
            Trial.same(s.fetch(0, 0, 0, false), 100);
            Trial.same(s.entries(1, 0), 100);
            Trial.yes(s.isWhole(1, tag));
        });
    }

    private static void steps() {
        Trial.test(39, "of several ways that of the fewest steps counts, by a first or second parent", () -> {
            for (int order = 0; order < 2; order++) {
                Scene s = new Scene();
                int[] chain = s.chain(0, s.tellFolder(0), 4);
                int tip = s.version(0, s.nth(0), 50, chain[order == 0 ? 3 : 0], chain[order == 0 ? 0 : 3]);
                s.move(0, 0, tip);
                Trial.same(s.fetch(0, 0, 2, false), 1 + 3);
                Trial.same(s.where(1, chain[0]), PACKED);
                Trial.same(s.where(1, chain[1]) + s.where(1, chain[2]), 0);
                Trial.yes(s.isShallow(1, chain[3]));
                Trial.no(s.isShallow(1, chain[0]));
                Trial.no(s.isShallow(1, tip));
            }
        });
        Trial.test(39, "of several ways that of the fewest steps counts, whichever was told first", () -> {
            for (int order = 0; order < 2; order++) {
                Scene s = new Scene();
                s.f = s.tellFolder(0);
                int low = s.version(0, s.f, 1, NONE, NONE);
                int near = order == 0 ? s.version(0, s.f, 2, low, NONE) : NONE;
                int far = s.version(0, s.f, 3, low, NONE);
                int middle = s.version(0, s.f, 4, far, NONE);
                near = order == 0 ? near : s.version(0, s.f, 2, low, NONE);
                int tip = s.version(0, s.f, 5, middle, near);
                s.move(0, 0, tip);
                Trial.same(s.fetch(0, 0, 3, false), 6);
                Trial.no(s.isShallow(1, far) || s.isShallow(1, near));
            }
        });
        Trial.test(39, "the TAG is no step", () -> {
            Scene s = row(3);
            s.t = s.tag(0, s.nth(3));
            s.move(0, 0, s.t);
            Trial.same(s.fetch(0, 0, 1, false), 3);
            Trial.same(s.where(1, s.t), PACKED);
            Trial.same(s.where(1, s.nth(2)), 0);
        });
        Trial.test(39, "it is not gone beyond a VERSION that is shallow in the first store", () -> {
            Scene s = row(3);
            s.fetch(0, 0, 2, false);
            s.crash(0, 0);
            Trial.same(s.ref(0, 0), NONE);
            Trial.same(s.fetch(1, 0, 0, false), 3);
            Trial.yes(s.isShallow(0, s.nth(2)));
            Trial.same(s.where(0, s.nth(1)), 0);
        });
        Trial.test(39, "what is replaced does not count for the steps", () -> {
            Scene s = row(3);
            int other = s.version(0, s.nth(0), 60, NONE, NONE);
            s.replace(0, s.nth(3), other);
            Trial.same(s.fetch(0, 0, 0, false), 4);
            Trial.same(s.where(1, other), 0);
        });
    }

    private static void wanted() {
        Trial.test(39, "what folders in folders reach is wanted", () -> {
            Scene s = new Scene();
            s.c = s.tellContent(0, 1);
            s.f = s.tellFolder(0, 0, s.c);
            s.g = s.tellFolder(0, 0, s.f);
            s.v = s.version(0, s.tellFolder(0, 5, s.g), 1, NONE, NONE);
            s.move(0, 0, s.v);
            Trial.same(s.fetch(0, 0, 1, false), 5);
            Trial.yes(s.isWhole(1, s.v));
        });
        Trial.test(39, "an empty FOLDER and its VERSION are two objects", () -> {
            Scene s = row(1);
            Trial.same(s.fetch(0, 0, 0, false), 2);
        });
        Trial.test(39, "what two versions share is sent once", () -> {
            Scene s = Scene.half();
            int w = s.version(0, s.f, 9, s.v, NONE);
            s.move(1, 0, NONE);
            s.move(0, 0, w);
            Trial.same(s.fetch(0, 0, 0, false), 4);
        });
        Trial.test(39, "the first store stays as it is", () -> {
            Scene s = Scene.rich();
            int deeds = s.unsynced(0);
            s.fetch(0, 0, 0, false);
            Trial.same(s.unsynced(0), deeds);
            Trial.same(s.logs(0), 1);
            Trial.same(s.chosen(0), 1);
        });
    }

    private static void had() {
        Trial.test(39, "what the other one has by any of its references is not sent", () -> {
            for (int ref = 0; ref < 6; ref++) {
                Scene s = row(2);
                s.fetch(0, 0, 0, false);
                s.move(1, ref, s.nth(2));
                s.move(0, 1, s.version(0, s.nth(0), 50, s.nth(2), NONE));
                Trial.same(s.fetch(0, 1, 0, false), 1);
            }
        });
        Trial.test(39, "what is there but no reference reaches is sent, and has a second entry", () -> {
            Scene s = row(1);
            s.fetch(0, 0, 0, false);
            s.move(1, 0, NONE);
            Trial.same(s.fetch(0, 0, 0, false), 2);
            Trial.same(s.packs(1), 2);
        });
        Trial.test(39, "what is there and spoiled is had, and not sent", () -> {
            Scene s = row(1);
            s.fetch(0, 0, 0, false);
            s.spoil(1, s.nth(1));
            Trial.same(s.fetch(0, 0, 0, false), 0);
            Trial.same(s.packs(1), 1);
        });
        Trial.test(39, "what is promised and not there is not had, and is sent", () -> {
            Scene s = Scene.half();
            Trial.same(s.fetch(0, 0, 0, false), 1);
            Trial.same(s.where(1, s.c), PACKED + PROMISED);
        });
        Trial.test(39, "what is beyond a VERSION that is shallow there is not had", () -> {
            Scene s = row(2);
            s.fetch(0, 0, 0, false);
            s.move(1, 0, NONE);
            s.fetch(0, 0, 1, false);
            Trial.yes(s.isShallow(1, s.nth(2)));
            Trial.same(s.where(1, s.nth(1)), PACKED);
            Trial.same(s.fetch(0, 0, 0, false), 1);
        });
        Trial.test(39, "nothing is sent: no pack, one NOTE", () -> {
            Scene s = row(1);
            s.fetch(0, 0, 0, false);
            Trial.same(s.fetch(0, 0, 0, false), 0);
            Trial.same(s.packs(1), 1);
            Trial.same(s.unsynced(1), 3);
            Trial.same(s.logs(1), 1);
        });
    }

    private static void halves() {
        Trial.test(39, "by half no CONTENT is sent, and each is promised", () -> {
            Scene s = Scene.half();
            Trial.same(s.entries(1, 0), 2);
            Trial.same(s.where(1, s.c), PROMISED);
            Trial.yes(s.isWhole(1, s.v));
        });
        Trial.test(39, "by half what is there is not promised, reached or not", () -> {
            Scene s = Scene.rich();
            s.clear();
            int apart = s.tellContent(1, 9, 9);
            int w = s.version(0, s.tellFolder(0, 0, s.c, 1, s.tellContent(0, 9, 9)), 1, NONE, NONE);
            s.move(0, 5, w);
            Trial.same(s.fetch(0, 5, 0, true), 2);
            Trial.same(s.where(1, apart), LOOSE);
        });
    }

    private static void promisedByHalf() {
        Trial.test(39, "by half what is there and spoiled is not promised", () -> {
            Scene s = new Scene();
            s.d = s.tellContent(0, 1);
            s.c = s.tellContent(1, 2);
            s.spoil(1, s.c);
            s.tellContent(0, 2);
            s.move(0, 0, s.version(0, s.tellFolder(0, 0, s.c, 1, s.d), 1, NONE, NONE));
            Trial.same(s.fetch(0, 0, 0, true), 2);
            Trial.same(s.where(1, s.c), LOOSE);
            Trial.same(s.where(1, s.d), PROMISED);
        });
        Trial.test(39, "by half, of two, the one that is there is not promised, the other one is", () -> {
            for (int there = 0; there < 2; there++) {
                Scene s = new Scene();
                int[] both = {s.tellContent(0, 1), s.tellContent(0, 2)};
                s.tellContent(1, there + 1);
                s.move(0, 0, s.version(0, s.tellFolder(0, 0, both[0], 1, both[1]), 1, NONE, NONE));
                s.fetch(0, 0, 0, true);
                Trial.same(s.where(1, both[there]), LOOSE);
                Trial.same(s.where(1, both[1 - there]), PROMISED);
            }
        });
        Trial.test(39, "a CONTENT that is not wanted is not promised", () -> {
            Scene s = Scene.half();
            int apart = s.tellContent(0, 9, 9);
            s.fetch(0, 0, 0, true);
            Trial.same(s.where(1, apart), 0);
        });
        Trial.test(39, "by half with no CONTENT at all nothing is promised", () -> {
            Scene s = row(1);
            Trial.same(s.fetch(0, 0, 0, true), 2);
            Trial.same(s.where(1, s.nth(0)), PACKED);
        });
        Trial.test(39, "not by half what is sent is not promised", () -> {
            Scene s = Scene.half();
            s.crash(1, 0);
            Trial.same(s.fetch(0, 0, 0, false), 3);
            Trial.same(s.where(1, s.c), PACKED);
        });
        Trial.test(39, "by half a limit counts too", () -> {
            Scene s = Scene.rich();
            Trial.same(s.where(1, s.v) + s.where(1, s.f), 0);
            Trial.same(s.fetch(0, 0, 2, true), 2);
        });
    }

    private static Scene emptied() {
        Scene s = Scene.half();
        s.crash(0, 0);
        return s;
    }

    private static void promised() {
        Trial.test(39, "what is promised in the first store and not there is not sent, but promised on", () -> {
            Scene s = emptied();
            Trial.same(s.fetch(1, 0, 0, false), 2);
            Trial.same(s.where(0, s.c), PROMISED);
            Trial.yes(s.isWhole(0, s.v));
        });
        Trial.test(39, "what is promised in the first store and not there is not sent, promised first or not", () -> {
            Scene s = Scene.busy(0, 1);
            s.v = s.root(0, 5);
            s.move(0, 0, s.v);
            s.fetch(0, 0, 0, true);
            s.crash(0, 0);
            Trial.same(s.fetch(1, 0, 0, false), 2);
            Trial.same(s.where(0, s.nth(1)), PROMISED);
            Trial.same(s.where(0, s.nth(0)), 0);
        });
        Trial.test(39, "what is promised in the first store and there is sent", () -> {
            Scene s = emptied();
            s.tellContent(1, 1, 2, 3);
            Trial.same(s.where(1, s.c), LOOSE + PROMISED);
            Trial.same(s.fetch(1, 0, 0, false), 3);
            Trial.same(s.where(0, s.c), PACKED);
        });
        Trial.test(39, "what is promised on is not promised where it is there", () -> {
            Scene s = emptied();
            s.tellContent(0, 1, 2, 3);
            Trial.same(s.fetch(1, 0, 0, false), 2);
            Trial.same(s.where(0, s.c), LOOSE);
        });
    }

    private static void promisedOn() {
        Trial.test(39, "what is promised in the first store, there and spoiled is refused", () -> Trial.badState(() -> {
            Scene s = emptied();
            s.tellContent(1, 1, 2, 3);
            s.spoil(1, s.c);
            return s;
        }, s -> s.fetch(1, 0, 0, false), s -> s.push(1, 0)));
        Trial.test(39, "of two that are promised in the first store the one that is there is sent", () -> {
            for (int there = 0; there < 2; there++) {
                Scene s = new Scene();
                int[] both = {s.tellContent(0, 1), s.tellContent(0, 2)};
                s.v = s.version(0, s.tellFolder(0, 0, both[0], 1, both[1]), 1, NONE, NONE);
                s.move(0, 0, s.v);
                s.fetch(0, 0, 0, true);
                s.crash(0, 0);
                s.tellContent(1, there + 1);
                Trial.same(s.fetch(1, 0, 0, false), 3);
                Trial.same(s.where(0, both[there]), PACKED);
                Trial.same(s.where(0, both[1 - there]), PROMISED);
            }
        });
        Trial.test(39, "what the other one has promised needs a good copy", () -> Trial.badState(() -> {
            Scene s = Scene.half();
            s.spoil(0, s.c);
            return s;
        }, s -> s.fetch(0, 0, 0, false), s -> s.push(0, 0)));
        Trial.test(39, "what is promised in both stores alone cannot be read in either", () -> Trial.badState(() -> {
            Scene s = emptied();
            s.fetch(1, 0, 0, false);
            return s;
        }, s -> s.read(0, s.c, 0), s -> s.read(1, s.c, 0)));
    }

    private static Scene tagged() {
        Scene s = new Scene();
        s.v = s.root(0, 1);
        s.c = s.nth(0);
        s.f = s.nth(1);
        s.t = s.tag(0, s.v);
        s.move(0, 0, s.t);
        return s;
    }

    private static void noGoodCopy() {
        for (int k = 0; k < 4; k++) {
            int bad = k;
            Trial.test(39, "what is to be sent and has no good copy is refused, kind " + k, () -> Trial.badState(() -> {
                Scene s = tagged();
                s.spoil(0, s.nth(bad));
                return s;
            }, s -> s.fetch(0, 0, 0, false), s -> s.fetch(0, 0, 1, false), s -> s.push(0, 0)));
        }
        Trial.test(39, "a good entry is enough to be sent", () -> {
            Scene s = tagged();
            s.pack(0, 8, 8);
            s.spoil(0, s.c);
            Trial.same(s.fetch(0, 0, 0, false), 4);
        });
        Trial.test(39, "an entry on a spoiled base is not enough to be sent", () -> Trial.badState(() -> {
            Scene s = new Scene();
            s.c = s.tellContent(0, 0, 7, 7, 7);
            s.d = s.tellContent(0, 1, 7, 7, 7);
            s.pack(0, 1, 1);
            s.move(0, 0, s.version(0, s.tellFolder(0, 0, s.d), 1, NONE, NONE));
            s.tick(10);
            s.sweep(0);
            s.spoil(0, s.c);
            return s;
        }, s -> s.fetch(0, 0, 0, false)));
        Trial.test(39, "by half a CONTENT needs no good copy", () -> {
            Scene s = tagged();
            s.spoil(0, s.c);
            Trial.same(s.fetch(0, 0, 0, true), 3);
        });
        Trial.test(39, "what the other one has needs no good copy", () -> {
            Scene s = tagged();
            s.fetch(0, 0, 0, false);
            s.spoil(0, s.v);
            Trial.same(s.fetch(0, 0, 0, false), 0);
        });
        Trial.test(39, "what is beyond the limit needs no good copy", () -> {
            Scene s = row(3);
            s.spoil(0, s.nth(1));
            Trial.same(s.fetch(0, 0, 2, false), 3);
        });
    }

    private static Scene twentyMade() {
        Scene s = row(1);
        for (int k = 0; k < 20; k++) {
            s.tellContent(1, k);
            s.pack(1, 0, 0);
        }
        return s;
    }

    private static void twentyPacks() {
        Trial.test(39, "the other store has made 20 packs, and something is to be sent: refused",
                () -> Trial.badState(LineBounds::twentyMade, s -> s.fetch(0, 0, 0, false),
                        s -> s.fetch(0, 0, 1, true), s -> s.push(0, 0)));
        Trial.test(39, "the other store has made 20 packs, one object is sent: refused", () -> Trial.badState(() -> {
            Scene s = twentyMade();
            s.tellFolder(1);
            s.version(1, s.nth(0), 1, NONE, NONE);
            s.move(1, 3, s.nth(1));
            s.move(0, 1, s.version(0, s.nth(0), 60, s.nth(1), NONE));
            return s;
        }, s -> s.fetch(0, 1, 0, false), s -> s.push(0, 1)));
        Trial.test(39, "the other store has made 20 packs, and nothing is to be sent: fetched and pushed", () -> {
            Scene s = twentyMade();
            s.tellFolder(1);
            s.version(1, s.nth(0), 1, NONE, NONE);
            s.move(1, 3, s.nth(1));
            Trial.same(s.fetch(0, 0, 0, false), 0);
            Trial.same(s.ref(1, 0), s.nth(1));
            Trial.same(s.push(0, 0), 0);
        });
        Trial.test(39, "the 20th pack may be a fetched one", () -> {
            Scene s = row(1);
            for (int k = 0; k < 19; k++) {
                s.tellContent(1, k);
                s.pack(1, 0, 0);
            }
            Trial.same(s.fetch(0, 0, 0, false), 2);
            Trial.same(s.entries(1, 19), 2);
        });
        Trial.test(39, "20 packs of the first store are no bar", () -> {
            Scene s = row(1);
            for (int k = 0; k < 20; k++) {
                s.tellContent(0, k);
                s.pack(0, 0, 0);
            }
            Trial.same(s.fetch(0, 0, 0, false), 2);
        });
        Trial.test(39, "a limit out of its range is told ahead of 20 packs",
                () -> Trial.badArgument(LineBounds::twentyMade, s -> s.fetch(0, 0, 21, false)));
    }

    /** A VERSION in store 0 with all these CONTENTs in FOLDERs in a row, as a reference. */
    private static void hold(Scene s, int ref, int date, int... contents) {
        int folder = NONE;
        for (int first = 0; first < contents.length; first += 5) {
            for (int k = first; k < contents.length && k < first + 5; k++) {
                s.draft(k - first, contents[k]);
            }
            if (folder != NONE) {
                s.draft(9, folder);
            }
            folder = s.folder(0);
        }
        s.move(0, ref, s.version(0, folder, date, NONE, NONE));
    }

    private static void depthsAndWindows() {
        Trial.test(39, "depth 4 is the greatest, of the last 4 ahead", () -> {
            Scene s = new Scene();
            int[] all = new int[10];
            for (int k = 0; k < 10; k++) {
                all[k] = s.tellContent(0, k, 1, 2, 3, 4);
            }
            hold(s, 0, 1, all);
            s.fetch(0, 0, 0, false);
            int[] due = {NONE, 0, 1, 2, 3, 3, 3, 3, NONE, 8};
            for (int k = 0; k < 10; k++) {
                Trial.same(s.base(1, 0, k), due[k] == NONE ? NONE : all[due[k]]);
            }
        });
        for (int between = 2; between <= 4; between++) {
            int fillers = between;
            Trial.test(39, "the base may be among the last 4 ahead, not further: " + (between + 1) + " ahead", () -> {
                Scene s = new Scene();
                int[] all = new int[fillers + 2];
                all[0] = s.tellContent(0, 0, 1, 2, 3, 4);
                for (int k = 0; k < fillers; k++) {
                    all[k + 1] = s.tellContent(0, 41 + k, 0, 0, 0, 0);
                }
                all[fillers + 1] = s.tellContent(0, 40, 1, 2, 3, 4);
                hold(s, 0, 1, all);
                s.fetch(0, 0, 0, false);
                Trial.same(s.base(1, 0, fillers + 1), fillers <= 3 ? all[0] : NONE);
            });
        }
    }

    /** The other store has some CONTENTs by reference 0; store 0 is to send others, told ahead, by reference 1. */
    private static Scene offering(int[][] there, int[][] sent) {
        Scene s = new Scene();
        int[] next = new int[sent.length];
        for (int k = 0; k < sent.length; k++) {
            next[k] = s.tellContent(0, sent[k]);
        }
        int[] had = new int[there.length];
        for (int k = 0; k < there.length; k++) {
            had[k] = s.tellContent(0, there[k]);
        }
        hold(s, 0, 1, had);
        hold(s, 1, 2, next);
        s.fetch(0, 0, 0, false);
        return s;
    }

    private static final int[] OLD = {0, 1, 2, 3, 4};
    private static final int[] NEAR = {40, 1, 2, 3, 4};

    private static void offered() {
        Trial.test(39, "what the other one has becomes an entry in front of the one on it, and does not count", () -> {
            Scene s = offering(new int[][] {OLD}, new int[][] {NEAR});
            Trial.same(s.fetch(0, 1, 0, false), 3);
            Trial.same(s.entries(1, 1), 4);
            Trial.same(s.base(1, 1, 0), NONE);
            Trial.same(s.base(1, 1, 1), s.nth(1));
            Trial.same(s.size(1, 1), 5 + 3 + 2 + 2);
        });
        Trial.test(39, "a base that is an entry by then is none again", () -> {
            Scene s = offering(new int[][] {OLD}, new int[][] {NEAR, {41, 1, 2, 3, 4}});
            Trial.same(s.fetch(0, 1, 0, false), 4);
            Trial.same(s.entries(1, 1), 5);
            Trial.same(s.base(1, 1, 2), s.nth(0));
        });
        Trial.test(39, "what the other one has without a good copy there is no base", () -> {
            Scene s = offering(new int[][] {OLD}, new int[][] {NEAR});
            s.spoil(1, s.nth(1));
            Trial.same(s.fetch(0, 1, 0, false), 3);
            Trial.same(s.entries(1, 1), 3);
        });
        Trial.test(39, "what is there but no reference reaches is no base", () -> {
            Scene s = offering(new int[][] {OLD}, new int[][] {NEAR});
            s.move(1, 0, NONE);
            Trial.same(s.fetch(0, 1, 0, false), 3);
            Trial.same(s.entries(1, 1), 3);
        });
        Trial.test(39, "a base with which the size is the same as without is not taken", () -> {
            Scene s = offering(new int[][] {{0, 1, 1}}, new int[][] {{60, 1, 1}});
            Trial.same(s.fetch(0, 1, 0, false), 3);
            Trial.same(s.entries(1, 1), 3);
            Trial.same(s.size(1, 1), 3 + 2 + 2);
        });
        Trial.test(39, "a base of another kind is not taken", () -> {
            Scene s = new Scene();
            s.content(0);
            s.v = s.version(0, s.tellFolder(0, 0, 0, 1, 0, 2, 0), 1, NONE, NONE);
            s.c = s.tellContent(0, 0, 0, 1, 0, 2, 0);
            s.move(0, 0, s.v);
            s.fetch(0, 0, 0, false);
            hold(s, 1, 2, s.c);
            Trial.same(s.fetch(0, 1, 0, false), 3);
            Trial.same(s.entries(1, 1), 3);
        });
        Trial.test(39, "a base may be shorter; what is the same is not counted twice", () -> {
            Scene s = offering(new int[][] {{1, 1, 1, 1}}, new int[][] {{1, 1, 1, 1, 1, 1, 1}});
            s.fetch(0, 1, 0, false);
            Trial.same(s.base(1, 1, 1), s.nth(1));
            Trial.same(s.size(1, 1), 4 + 5 + 2 + 2);
        });
    }

    private static void offeredOrder() {
        Trial.test(39, "of the same size one of the last 4 goes ahead of what the other one has", () -> {
            Scene s = offering(new int[][] {OLD}, new int[][] {{30, 1, 2, 3, 4}, NEAR});
            s.fetch(0, 1, 0, false);
            Trial.same(s.base(1, 1, 1), s.nth(2));
            Trial.same(s.base(1, 1, 2), s.nth(0));
        });
        Trial.test(39, "of a lesser size what the other one has goes ahead of the last 4", () -> {
            Scene s = offering(new int[][] {{40, 1, 2, 3, 9}}, new int[][] {{38, 9, 2, 3, 4}, NEAR});
            s.fetch(0, 1, 0, false);
            Trial.same(s.entries(1, 1), 5);
            Trial.same(s.base(1, 1, 2), s.nth(2));
        });
        Trial.test(39, "of what the other one has the lowest name goes first", () -> {
            Scene s = offering(new int[][] {{5, 1, 2, 3, 4}, OLD}, new int[][] {NEAR});
            s.fetch(0, 1, 0, false);
            Trial.same(s.base(1, 1, 1), s.nth(2));
            Trial.same(s.entries(1, 1), 4);
        });
        for (int fillers = 2; fillers <= 4; fillers++) {
            int between = fillers;
            Trial.test(39, "the lowest name goes first, an entry by then or not: " + fillers + " in between", () -> {
                int[][] sent = new int[between + 2][];
                sent[0] = new int[] {1, 1, 2, 3, 9};
                for (int k = 0; k < between; k++) {
                    sent[k + 1] = new int[] {67 + k, 0, 0, 0, 0};
                }
                sent[between + 1] = NEAR;
                Scene s = offering(new int[][] {OLD, {1, 1, 2, 3, 4}}, sent);
                s.fetch(0, 1, 0, false);
                Trial.same(s.base(1, 1, 1), s.nth(between + 3));
                boolean isInWindow = between + 2 <= 4;
                Trial.same(s.base(1, 1, between + (isInWindow ? 2 : 3)), s.nth(between + (isInWindow ? 3 : 2)));
            });
        }
        Trial.test(39, "what the other one has is as if its depth was 0, however deep it is there", () -> {
            int[][] there = new int[5][];
            for (int k = 0; k < 5; k++) {
                there[k] = new int[] {k, 1, 2, 3, 4};
            }
            Scene s = offering(there, new int[][] {{4, 1, 2, 3, 40}});
            Trial.same(s.base(1, 0, 4), s.nth(4));
            s.fetch(0, 1, 0, false);
            Trial.same(s.base(1, 1, 0), NONE);
            Trial.same(s.base(1, 1, 1), s.nth(5));
        });
        Trial.test(39, "an entry on what the other one has has depth 1: three more may go on it", () -> {
            Scene s = offering(new int[][] {OLD}, new int[][] {{5, 1, 2, 3, 4}, {6, 1, 2, 3, 4}, {7, 1, 2, 3, 4},
                {8, 1, 2, 3, 4}, {9, 1, 2, 3, 4}});
            s.fetch(0, 1, 0, false);
            int[] due = {NONE, 5, 0, 1, 2, 2};
            for (int k = 0; k < due.length; k++) {
                Trial.same(s.base(1, 1, k), due[k] == NONE ? NONE : s.nth(due[k]));
            }
        });
    }

    private static void notes() {
        Trial.test(39, "the reference becomes what that of the first one is, a TAG too, with one entry", () -> {
            Scene s = tagged();
            s.fetch(0, 0, 0, false);
            Trial.same(s.ref(1, 0), s.t);
            Trial.same(s.logs(1), 1);
            Trial.same(s.unsynced(1), 2);
        });
        Trial.test(39, "whatever the reference of the other one was", () -> {
            Scene s = tagged();
            int other = s.root(1, 9);
            s.move(1, 0, other);
            Trial.same(s.fetch(0, 0, 0, false), 4);
            Trial.same(s.ref(1, 0), s.t);
            Trial.same(s.logs(1), 2);
        });
        Trial.test(39, "no other reference moves", () -> {
            Scene s = tagged();
            s.move(0, 1, s.v);
            s.fetch(0, 0, 0, false);
            Trial.same(s.ref(1, 1), NONE);
        });
        Trial.test(39, "there is no entry if it does not become another one", () -> {
            Scene s = tagged();
            s.fetch(0, 0, 0, false);
            s.tick(1);
            s.fetch(0, 0, 0, true);
            Trial.same(s.logs(1), 1);
            Trial.same(s.unsynced(1), 3);
        });
        Trial.test(39, "the entry has the tick of the fetch, and the old name", () -> {
            Scene s = tagged();
            int other = s.root(1, 9);
            s.move(1, 0, other);
            s.tick(50);
            s.fetch(0, 0, 0, false);
            s.tick(19);
            Trial.same(s.sweep(1), 0);
            s.tick(1);
            Trial.same(s.sweep(1), 3);
            Trial.same(s.where(1, other), 0);
        });
    }

    private static void cuts() {
        Trial.test(39, "a wanted version whose parent the other one has is not shallow", () -> {
            Scene s = row(2);
            s.move(0, 1, s.nth(1));
            s.fetch(0, 1, 0, false);
            Trial.same(s.fetch(0, 0, 1, false), 1);
            Trial.no(s.isShallow(1, s.nth(2)));
            Trial.yes(s.isWhole(1, s.nth(2)));
        });
        Trial.test(39, "a wanted version whose parent is there, but not had, is shallow", () -> {
            Scene s = row(2);
            s.move(0, 1, s.nth(1));
            s.fetch(0, 1, 0, false);
            s.move(1, 1, NONE);
            Trial.same(s.fetch(0, 0, 1, false), 2);
            Trial.yes(s.isShallow(1, s.nth(2)));
        });
        Trial.test(39, "one parent of two that is neither wanted nor had is enough to be shallow", () -> {
            for (int order = 0; order < 2; order++) {
                Scene s = new Scene();
                s.f = s.tellFolder(0);
                s.u = s.version(0, s.f, 1, NONE, NONE);
                s.v = s.version(0, s.f, 2, NONE, NONE);
                s.w = s.version(0, s.f, 3, order == 0 ? s.u : s.v, order == 0 ? s.v : s.u);
                s.move(0, 0, s.u);
                s.fetch(0, 0, 0, false);
                s.move(0, 1, s.w);
                Trial.same(s.fetch(0, 1, 1, false), 1);
                Trial.yes(s.isShallow(1, s.w));
                Trial.same(s.fetch(0, 1, 2, false), 1);
                Trial.no(s.isShallow(1, s.w));
            }
        });
    }

    private static void cutsThatStay() {
        Trial.test(39, "what was shallow and is wanted further is shallow no more, the next one is", () -> {
            Scene s = row(3);
            s.fetch(0, 0, 1, false);
            Trial.yes(s.isShallow(1, s.nth(3)));
            Trial.same(s.fetch(0, 0, 2, false), 1);
            Trial.no(s.isShallow(1, s.nth(3)));
            Trial.yes(s.isShallow(1, s.nth(2)));
        });
        Trial.test(39, "what is not wanted stays as shallow as it was", () -> {
            Scene s = row(3);
            s.move(0, 1, s.nth(2));
            s.fetch(0, 1, 1, false);
            Trial.yes(s.isShallow(1, s.nth(2)));
            Trial.same(s.fetch(0, 0, 1, false), 1);
            Trial.yes(s.isShallow(1, s.nth(2)));
            Trial.no(s.isShallow(1, s.nth(3)));
        });
        Trial.test(39, "what is not wanted stays as it was though its parent is had now, or is not", () -> {
            Scene s = row(2);
            s.fetch(0, 0, 1, false);
            s.move(0, 1, s.nth(1));
            s.fetch(0, 1, 1, false);
            Trial.yes(s.isShallow(1, s.nth(2)));
            int apart = s.version(1, s.nth(0), 60, NONE, NONE);
            int lone = s.version(1, s.nth(0), 61, apart, NONE);
            s.fetch(0, 1, 1, false);
            Trial.no(s.isShallow(1, lone));
            Trial.yes(s.isShallow(1, s.nth(2)));
        });
        Trial.test(39, "a version without parents is never shallow", () -> {
            Scene s = row(1);
            s.fetch(0, 0, 1, false);
            Trial.no(s.isShallow(1, s.nth(1)));
        });
        Trial.test(39, "nothing is made shallow in the first store", () -> {
            Scene s = row(2);
            s.fetch(0, 0, 1, false);
            Trial.no(s.isShallow(0, s.nth(2)));
        });
    }

    private static void pushes() {
        Trial.test(40, "the reference of the other one is NONE: pushed, all of it", () -> {
            Scene s = row(22);
            Trial.same(s.push(0, 0), 23);
            Trial.same(s.ref(1, 0), s.nth(22));
            Trial.same(s.unsynced(1), 2);
            Trial.same(s.logs(1), 1);
        });
        Trial.test(40, "it is pushed not by half", () -> {
            Scene s = tagged();
            Trial.same(s.push(0, 0), 4);
            Trial.same(s.where(1, s.c), PACKED);
        });
        Trial.test(40, "the version of the reference there is wanted: the same, its parent, the farthest", () -> {
            for (int at = 1; at <= 4; at++) {
                Scene s = row(4);
                s.move(0, 1, s.nth(at));
                s.fetch(0, 1, 0, false);
                s.move(1, 0, s.nth(at));
                Trial.same(s.push(0, 0), 4 - at);
                Trial.same(s.ref(1, 0), s.nth(4));
            }
        });
        Trial.test(40, "the reference there is the TAG of a version that is wanted", () -> {
            Scene s = tagged();
            s.fetch(0, 0, 0, false);
            s.move(0, 0, s.version(0, s.f, 50, s.v, NONE));
            Trial.same(s.push(0, 0), 1);
            s.move(0, 0, s.t);
            Trial.badState(() -> {
                Scene after = tagged();
                after.move(0, 0, after.version(0, after.f, 50, after.v, NONE));
                after.push(0, 0);
                after.move(0, 0, after.t);
                return after;
            }, after -> after.push(0, 0));
        });
        Trial.test(40, "pushed again nothing is sent, by one NOTE", () -> {
            Scene s = tagged();
            s.push(0, 0);
            Trial.same(s.push(0, 0), 0);
            Trial.same(s.unsynced(1), 3);
            Trial.same(s.logs(1), 1);
        });
        Trial.test(40, "the last reference is pushed, from store 1 too", () -> {
            Scene s = new Scene();
            s.v = s.root(1, 1);
            s.move(1, 5, s.v);
            Trial.same(s.push(1, 5), 3);
            Trial.same(s.ref(0, 5), s.v);
        });
        Trial.test(40, "what is promised in the first store and not there is promised on by a push", () -> {
            Scene s = emptied();
            Trial.same(s.push(1, 0), 2);
            Trial.same(s.where(0, s.c), PROMISED);
        });
    }

    private static void refusedPushes() {
        Trial.Maker rich = Scene::rich;
        Trial.test(40, "there is no reference -1 and no reference 6", () -> Trial.outOfBounds(rich,
                s -> s.push(0, -1), s -> s.push(0, 6), s -> s.push(0, Integer.MAX_VALUE),
                s -> s.push(0, Integer.MIN_VALUE)));
        Trial.test(40, "with the line down nothing is pushed",
                () -> Trial.badState(LineBounds::down, s -> s.push(0, 0)));
        Trial.test(40, "no such store is told ahead of a line that is down",
                () -> Trial.outOfBounds(LineBounds::down, s -> s.push(2, 0), s -> s.fetch(-1, 0, 0, false)));
        Trial.test(40, "a reference that is NONE is not pushed",
                () -> Trial.badState(rich, s -> s.push(0, 5), s -> s.push(1, 1)));
        Trial.test(40, "onto a version that comes from it nothing is pushed", () -> Trial.badState(() -> {
            Scene s = row(2);
            s.fetch(0, 0, 0, false);
            s.move(0, 0, s.nth(1));
            return s;
        }, s -> s.push(0, 0)));
        Trial.test(40, "onto a version that is apart nothing is pushed", () -> Trial.badState(() -> {
            Scene s = row(2);
            s.fetch(0, 0, 0, false);
            s.move(0, 0, s.version(0, s.nth(0), 50, NONE, NONE));
            for (int store = 0; store < 2; store++) {
                s.choose(store, s.nth(1));
                s.expect(store, 3, NONE, s.nth(1));
                s.pin(store, s.nth(2));
            }
            return s;
        }, s -> s.push(0, 0)));
        Trial.test(40, "onto a version beyond one that is shallow in the first store nothing is pushed",
                () -> Trial.badState(() -> {
                    Scene s = row(3);
                    s.fetch(0, 0, 1, false);
                    s.move(0, 0, s.nth(1));
                    return s;
                }, s -> s.push(1, 0)));
        Trial.test(40, "another reference of the other one does not count", () -> {
            Scene s = row(2);
            s.fetch(0, 0, 0, false);
            s.move(1, 1, s.nth(2));
            s.move(1, 0, NONE);
            s.move(0, 0, s.nth(1));
            Trial.same(s.push(0, 0), 0);
            Trial.same(s.ref(1, 0), s.nth(1));
        });
    }
}
