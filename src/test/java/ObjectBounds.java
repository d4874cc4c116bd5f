/** The boundaries of objects and their bodies: promises 1 to 11. */
final class ObjectBounds {
    private static final int NONE = Scene.NONE;
    private static final int MIN = Integer.MIN_VALUE;
    private static final int MAX = Integer.MAX_VALUE;

    private ObjectBounds() {
    }

    static void run() {
        newObjects();
        putting();
        clearing();
        contents();
        sums();
        sameObjects();
        folders();
        folderEntries();
        versions();
        parents();
        tags();
        hundred();
        hundredTold();
        bodies();
    }

    private static Trial.Maker drafted(int... numbers) {
        return () -> new Scene().draft(numbers);
    }

    private static Scene full() {
        return new Scene().draft(0, 1, 2, 3, 4, 5, 6, 7, 8, 9, 10, 11);
    }

    private static void newObjects() {
        Trial.test(1, "two empty stores: no deeds, entries, packs, chosen, missing or references", () -> {
            Scene s = new Scene();
            Trial.same(s.told(), 0);
            for (int store = 0; store < 2; store++) {
                Trial.same(s.unsynced(store), 0);
                Trial.same(s.logs(store), 0);
                Trial.same(s.packs(store), 0);
                Trial.same(s.chosen(store), 0);
                Trial.same(s.missing(store), 0);
                for (int ref = 0; ref < 6; ref++) {
                    Trial.same(s.ref(store, ref), NONE);
                }
            }
        });
        Trial.test(1, "in an empty store there is nothing to sync, lose, pack, sweep or mend", () -> {
            for (int store = 0; store < 2; store++) {
                Scene s = new Scene();
                Trial.same(s.sync(store), 0);
                Trial.same(s.crash(store, 1073741823), 0);
                Trial.same(s.pack(store, 8, 8), NONE);
                Trial.same(s.sweep(store), 0);
                Trial.same(s.mend(store), 0);
                Trial.same(s.unsynced(store), 0);
            }
        });
        Trial.test(1, "the line is up", () -> Trial.no(new Scene().line()));
        Trial.test(1, "the draft is empty", () -> Trial.same(new Scene().clear(), 0));
        Trial.test(1, "the tick is 0 at first", () -> Trial.same(new Scene().tick(1), 1));
        Trial.test(1, "the transactions are empty",
                () -> Trial.badState(Scene::new, s -> s.commit(0), s -> s.commit(1)));
        Trial.test(1, "there is no object, not even one named 0", () -> Trial.outOfBounds(Scene::new, s -> s.kind(0),
                s -> s.length(0), s -> s.part(0, 0), s -> s.where(0, 0), s -> s.reach(1, 0)));
        Trial.test(1, "there is no latest walk", () -> Trial.outOfBounds(Scene::new, s -> s.walkAt(0)));
        Trial.test(1, "objects are apart: what one is told the other is not", () -> {
            Scene one = new Scene();
            Scene other = new Scene();
            one.tellContent(0, 1);
            one.put(5);
            one.line();
            Trial.same(other.told() + other.clear(), 0);
            Trial.no(other.line());
        });
    }

    private static void putting() {
        Trial.test(2, "the least number is 0", () -> Trial.same(new Scene().put(0), 1));
        Trial.test(2, "the greatest number is 9999", () -> Trial.same(new Scene().put(9999), 1));
        Trial.test(2, "-1 is below the range", () -> Trial.badArgument(Scene::new, s -> s.put(-1), s -> s.put(MIN)));
        Trial.test(2, "10000 is above the range",
                () -> Trial.badArgument(Scene::new, s -> s.put(10000), s -> s.put(MAX)));
        Trial.test(2, "12 numbers fill the draft", () -> {
            Scene s = new Scene();
            for (int k = 1; k <= 12; k++) {
                Trial.same(s.put(k), k);
            }
        });
        Trial.test(2, "the draft that has 12 takes no more", () -> Trial.badState(ObjectBounds::full,
                s -> s.put(0), s -> s.put(9999)));
        Trial.test(2, "a number out of its range is refused ahead of a full draft",
                () -> Trial.badArgument(ObjectBounds::full, s -> s.put(-1), s -> s.put(10000)));
        Trial.test(2, "the number goes to the end of the draft", () -> {
            Scene s = new Scene();
            int name = s.draft(7, 8, 9).content(0);
            Trial.same(s.part(name, 0) * 100 + s.part(name, 1) * 10 + s.part(name, 2), 789);
        });
        Trial.test(2, "a draft that was full and emptied takes 12 again", () -> {
            Scene s = full();
            s.clear();
            Trial.same(s.put(1), 1);
        });
    }

    private static void clearing() {
        Trial.test(3, "an empty draft had none", () -> Trial.same(new Scene().clear(), 0));
        Trial.test(3, "a full draft had 12", () -> Trial.same(full().clear(), 12));
        Trial.test(3, "the draft is empty then", () -> {
            Scene s = new Scene().draft(1, 2);
            Trial.same(s.clear(), 2);
            Trial.same(s.clear(), 0);
        });
    }

    private static void contents() {
        Trial.test(4, "a CONTENT may have no numbers", () -> {
            Scene s = new Scene();
            Trial.same(s.content(0), 0);
            Trial.same(s.kind(0), PackSpring.CONTENT);
            Trial.same(s.length(0), 0);
        });
        Trial.test(4, "a CONTENT may have 12 numbers", () -> {
            Scene s = full();
            Trial.same(s.length(s.content(0)), 12);
        });
        Trial.test(4, "its numbers go from 0 to 99", () -> {
            Scene s = new Scene();
            int name = s.tellContent(0, 0, 99);
            Trial.same(s.part(name, 0), 0);
            Trial.same(s.part(name, 1), 99);
        });
        Trial.test(4, "100 is no number of a CONTENT, first or last", () -> {
            Trial.badArgument(drafted(100), s -> s.content(0), s -> s.content(1));
            Trial.badArgument(drafted(100, 5), s -> s.content(0));
            Trial.badArgument(drafted(0, 1, 2, 3, 4, 5, 6, 7, 8, 9, 10, 100), s -> s.content(0));
            Trial.badArgument(drafted(9999), s -> s.content(0));
        });
        Trial.test(4, "that there is no such store is told ahead of a draft that is no body",
                () -> Trial.outOfBounds(drafted(100), s -> s.content(-1), s -> s.content(2)));
        Trial.test(4, "the draft is empty then", () -> {
            Scene s = new Scene();
            s.tellContent(0, 1, 2);
            Trial.same(s.clear(), 0);
        });
        Trial.test(4, "it is written into that store alone", () -> {
            Scene s = new Scene();
            int name = s.tellContent(1, 1);
            Trial.same(s.where(1, name), PackSpring.LOOSE);
            Trial.same(s.where(0, name), 0);
        });
        writing();
    }

    private static void writing() {
        Trial.test(4, "what has a good copy is not written again", () -> {
            Scene s = new Scene();
            s.tellContent(0, 1);
            s.tellContent(0, 1);
            Trial.same(s.unsynced(0), 1);
        });
        Trial.test(4, "what has a good entry alone is not written again", () -> {
            Scene s = new Scene();
            int name = s.tellContent(0, 1);
            s.pack(0, 0, 0);
            s.spoil(0, name);
            s.tellContent(0, 1);
            Trial.same(s.unsynced(0), 2);
        });
        Trial.test(4, "a spoiled loose copy has a new one in its place", () -> {
            Scene s = new Scene();
            int name = s.tellContent(0, 1);
            s.spoil(0, name);
            s.tellContent(0, 1);
            Trial.same(s.unsynced(0), 2);
            Trial.same(s.read(0, name, 0), 1);
            Trial.same(s.where(0, name), PackSpring.LOOSE);
        });
        Trial.test(4, "what is there by a spoiled entry alone is written loose", () -> {
            Scene s = Scene.half();
            s.spoil(1, s.f);
            s.tellFolder(1, 0, s.c);
            Trial.same(s.where(1, s.f), PackSpring.LOOSE + PackSpring.PACKED);
        });
    }

    private static void sums() {
        Trial.test(4, "a sum of 88 is left as it is, of 89 nothing is left, of 90 one", () -> {
            Scene s = new Scene();
            Trial.same(s.tellContent(0, 88), 8800);
            Trial.same(s.tellContent(0, 89), 0);
            Trial.same(s.tellContent(0, 90), 100);
        });
        Trial.test(4, "the first number counts once, the twelfth twelve times", () -> {
            Scene s = new Scene();
            Trial.same(s.tellContent(0, 1, 0, 0, 0, 0, 0, 0, 0, 0, 0, 0, 0), 100);
            Trial.same(s.tellContent(0, 0, 0, 0, 0, 0, 0, 0, 0, 0, 0, 0, 1), 1200);
        });
        Trial.test(4, "the greatest body of a CONTENT has its sum too", () -> Trial.same(
                new Scene().tellContent(0, 99, 99, 99, 99, 99, 99, 99, 99, 99, 99, 99, 99), 6800));
        Trial.test(4, "others with this sum are counted, of whatever body", () -> {
            Scene s = new Scene();
            Trial.same(s.tellContent(0), 0);
            Trial.same(s.tellContent(0, 0), 1);
            Trial.same(s.tellContent(0, 0, 0), 2);
            Trial.same(s.tellContent(0, 89), 3);
        });
        Trial.test(4, "others with this sum are counted in either store", () -> {
            Scene s = new Scene();
            Trial.same(s.tellContent(1), 0);
            Trial.same(s.tellContent(0, 0), 1);
            Trial.same(s.tellContent(1, 0, 0), 2);
        });
        Trial.test(4, "others with this sum are counted of whatever kind", () -> {
            Scene s = new Scene();
            Trial.same(s.tellContent(0, 31), 3100);
            Trial.same(s.tellFolder(0), 3101);
            Trial.same(s.tellContent(0, 0, 60), 3102);
        });
        Trial.test(8, "100 objects with one sum have the names 0 to 99", () -> {
            Scene s = new Scene();
            for (int k = 0; k < 100; k++) {
                Trial.same(s.tellContent(0, Math.floorMod(-2 * k, 89), k), k);
            }
            Trial.same(s.told(), 100);
            Trial.same(s.part(99, 1), 99);
        });
        Trial.test(8, "100 objects with the greatest sum have the names 8800 to 8899", () -> {
            Scene s = new Scene();
            for (int k = 0; k < 100; k++) {
                Trial.same(s.tellContent(0, Math.floorMod(88 - 2 * k, 89), k), 8800 + k);
            }
            Trial.same(s.part(8899, 1), 99);
        });
        Trial.test(5, "31 times the kind counts for a FOLDER", () -> Trial.same(new Scene().tellFolder(0), 3100));
        Trial.test(6, "31 times the kind counts for a VERSION", () -> {
            Scene s = new Scene();
            Trial.same(s.version(0, s.tellFolder(0), 0, NONE, NONE), 4700);
        });
        Trial.test(7, "31 times the kind counts for a TAG", () -> {
            Scene s = new Scene();
            Trial.same(s.tag(0, s.version(0, s.tellFolder(0), 0, NONE, NONE)), 7600);
        });
    }

    private static void sameObjects() {
        Trial.test(4, "with the same kind and body it is the same object, in the other store too", () -> {
            Scene s = new Scene();
            int name = s.tellContent(0, 4, 5);
            Trial.same(s.tellContent(0, 4, 5), name);
            Trial.same(s.tellContent(1, 4, 5), name);
            Trial.same(s.told(), 1);
        });
        Trial.test(4, "an empty CONTENT is not an empty FOLDER", () -> {
            Scene s = new Scene();
            Trial.same(s.tellContent(0), 0);
            Trial.same(s.tellFolder(0), 3100);
            Trial.same(s.told(), 2);
        });
        Trial.test(4, "a body that goes on is another one", () -> {
            Scene s = new Scene();
            s.tellContent(0, 5);
            s.tellContent(0, 5, 0);
            s.tellContent(0, 5, 0, 0);
            Trial.same(s.told(), 3);
        });
        Trial.test(6, "parents in the other order make another VERSION", () -> {
            Scene s = new Scene();
            int f = s.tellFolder(0);
            int one = s.version(0, f, 1, NONE, NONE);
            int other = s.version(0, f, 2, NONE, NONE);
            s.version(0, f, 3, one, other);
            s.version(0, f, 3, other, one);
            Trial.same(s.told(), 5);
        });
        Trial.test(6, "a VERSION told again is the same object", () -> {
            Scene s = new Scene();
            int f = s.tellFolder(0);
            int v = s.version(0, f, 1, NONE, NONE);
            Trial.same(s.version(0, f, 1, NONE, NONE), v);
            Trial.same(s.tag(0, v), s.tag(0, v));
            Trial.same(s.told(), 3);
        });
    }

    private static Scene content() {
        Scene s = new Scene();
        s.c = s.tellContent(0, 1, 2, 3);
        return s;
    }

    private static Trial.Maker draftedAfter(Trial.Maker maker, int... numbers) {
        return () -> maker.make().draft(numbers);
    }

    private static void folders() {
        int c = content().c;
        Trial.test(5, "a FOLDER may have no entries", () -> {
            Scene s = new Scene();
            Trial.same(s.length(s.tellFolder(0)), 0);
        });
        Trial.test(5, "a FOLDER may have 6 entries", () -> {
            Scene s = content();
            int name = s.tellFolder(0, 0, c, 1, c, 2, c, 3, c, 4, c, 9, c);
            Trial.same(s.length(name), 12);
            Trial.same(s.part(name, 10), 9);
            Trial.same(s.part(name, 11), c);
        });
        Trial.test(5, "its labels go from 0 to 9", () -> {
            Scene s = content();
            int name = s.tellFolder(0, 0, c, 9, c);
            Trial.same(s.part(name, 0), 0);
            Trial.same(s.part(name, 2), 9);
        });
        Trial.test(5, "10 is no label", () -> {
            Trial.badArgument(draftedAfter(ObjectBounds::content, 10, c), s -> s.folder(0), s -> s.folder(1));
            Trial.badArgument(draftedAfter(ObjectBounds::content, 0, c, 10, c), s -> s.folder(0));
            Trial.badArgument(draftedAfter(ObjectBounds::content, 9999, c), s -> s.folder(0));
        });
        Trial.test(5, "labels rise: the same one again is refused", () -> {
            Trial.badArgument(draftedAfter(ObjectBounds::content, 0, c, 0, c), s -> s.folder(0));
            Trial.badArgument(draftedAfter(ObjectBounds::content, 1, c, 9, c, 9, c), s -> s.folder(0));
        });
        Trial.test(5, "labels rise: a lower one is refused",
                () -> Trial.badArgument(draftedAfter(ObjectBounds::content, 5, c, 4, c), s -> s.folder(0)));
        Trial.test(5, "an entry has a label and a name: an odd draft is refused", () -> {
            Trial.badArgument(draftedAfter(ObjectBounds::content, 0), s -> s.folder(0));
            Trial.badArgument(draftedAfter(ObjectBounds::content, 0, c, 1), s -> s.folder(0));
            Trial.badArgument(draftedAfter(ObjectBounds::content, 0, c, 1, c, 2, c, 3, c, 4, c, 5), s -> s.folder(0));
        });
        Trial.test(5, "that there is no such store is told ahead of a draft that is no body",
                () -> Trial.outOfBounds(draftedAfter(ObjectBounds::content, 10, c), s -> s.folder(-1),
                        s -> s.folder(2)));
        Trial.test(5, "the draft is empty then", () -> {
            Scene s = content();
            s.tellFolder(0, 0, c);
            Trial.same(s.clear(), 0);
        });
    }

    private static void folderEntries() {
        Trial.Maker rich = () -> {
            Scene s = Scene.rich();
            s.clear();
            return s;
        };
        Scene r = rich.make();
        Trial.test(5, "an entry is a CONTENT or FOLDER", () -> {
            Scene s = rich.make();
            Trial.same(s.kind(s.tellFolder(0, 2, s.c, 4, s.g)), PackSpring.FOLDER);
        });
        Trial.test(5, "an entry is no VERSION and no TAG", () -> {
            Trial.badArgument(draftedAfter(rich, 0, r.v), s -> s.folder(0));
            Trial.badArgument(draftedAfter(rich, 0, r.c, 1, r.t), s -> s.folder(0));
        });
        Trial.test(5, "an entry was told", () -> {
            Trial.badArgument(draftedAfter(rich, 0, 8900), s -> s.folder(0));
            Trial.badArgument(draftedAfter(rich, 0, r.c, 1, r.c + 99), s -> s.folder(0));
        });
        Trial.test(5, "an entry that is promised and not there is enough", () -> {
            Scene s = rich.make();
            Trial.same(s.where(1, s.d), PackSpring.PROMISED);
            Trial.same(s.kind(s.tellFolder(1, 5, s.d)), PackSpring.FOLDER);
        });
        Trial.test(5, "an entry that is there and spoiled is enough", () -> {
            Scene s = new Scene();
            int c = s.tellContent(0, 1);
            s.spoil(0, c);
            Trial.same(s.kind(s.tellFolder(0, 0, c)), PackSpring.FOLDER);
        });
        Trial.test(5, "the first or the last entry that is neither there nor promised is refused", () -> {
            Trial.badState(draftedAfter(rich, 0, r.f), s -> s.folder(1));
            Trial.badState(draftedAfter(rich, 0, r.c, 1, r.d, 2, r.g, 3, r.c, 4, r.c, 5, r.f), s -> s.folder(1));
        });
        Trial.test(5, "an entry that a crash took is no more there", () -> {
            Trial.Maker lost = () -> {
                Scene s = content();
                s.crash(0, 0);
                return s.draft(0, s.c);
            };
            Trial.badState(lost, s -> s.folder(0));
        });
        Trial.test(5, "a draft that is no body is told ahead of an entry that is not there",
                () -> Trial.badArgument(draftedAfter(rich, 0, r.f, 0, r.f), s -> s.folder(1)));
        Trial.test(5, "that there is no such store is told ahead of an entry that is not there",
                () -> Trial.outOfBounds(draftedAfter(rich, 0, r.f), s -> s.folder(2)));
    }

    private static void versions() {
        Trial.Maker rich = Scene::rich;
        Trial.test(6, "its date goes from 0 to 9999", () -> {
            Scene s = Scene.rich();
            Trial.same(s.part(s.version(0, s.f, 0, NONE, NONE), 1), 0);
            Trial.same(s.part(s.version(0, s.f, 9999, NONE, NONE), 1), 9999);
        });
        Trial.test(6, "a date below 0 is refused", () -> Trial.badArgument(rich,
                s -> s.version(0, s.f, -1, NONE, NONE), s -> s.version(0, s.f, MIN, NONE, NONE)));
        Trial.test(6, "a date above 9999 is refused", () -> Trial.badArgument(rich,
                s -> s.version(0, s.f, 10000, NONE, NONE), s -> s.version(0, s.f, MAX, NONE, NONE)));
        Trial.test(6, "its folder is a FOLDER", () -> Trial.badArgument(rich, s -> s.version(0, s.c, 5, NONE, NONE),
                s -> s.version(0, s.v, 5, NONE, NONE), s -> s.version(0, s.t, 5, NONE, NONE)));
        Trial.test(6, "NONE is no folder", () -> Trial.outOfBounds(rich, s -> s.version(0, NONE, 5, NONE, NONE)));
        Trial.test(6, "a folder or parent that was not told is told ahead of a date out of its range",
                () -> Trial.outOfBounds(rich, s -> s.version(0, 8900, -1, NONE, NONE),
                        s -> s.version(0, s.f, -1, 8900, NONE), s -> s.version(0, s.f, 10000, s.v, 8900)));
        Trial.test(6, "that there is no such store is told ahead of all else",
                () -> Trial.outOfBounds(rich, s -> s.version(2, s.c, -1, s.v, s.v)));
        Trial.test(6, "a date out of its range is told ahead of a folder that is not there",
                () -> Trial.badArgument(rich, s -> s.version(1, s.f, 10000, NONE, NONE)));
        Trial.test(6, "the folder is there in the store", () -> Trial.badState(rich,
                s -> s.version(1, s.f, 9, NONE, NONE)));
        Trial.test(6, "a folder that is there and spoiled is enough", () -> {
            Scene s = new Scene();
            int f = s.tellFolder(0);
            s.spoil(0, f);
            Trial.same(s.kind(s.version(0, f, 1, NONE, NONE)), PackSpring.VERSION);
        });
        Trial.test(6, "a VERSION that is not there may be told again where its folder and parents are", () -> {
            Scene s = Scene.rich();
            s.clear();
            s.tellFolder(1, 0, s.c);
            Trial.same(s.version(1, s.f, 5, NONE, NONE), s.v);
            Trial.same(s.where(1, s.v), PackSpring.LOOSE);
        });
    }

    private static void parents() {
        Trial.Maker rich = Scene::rich;
        Trial.test(6, "it has 0 to 2 parents", () -> {
            Scene s = Scene.rich();
            Trial.same(s.length(s.version(0, s.f, 9, NONE, NONE)), 2);
            Trial.same(s.length(s.version(0, s.f, 9, s.v, NONE)), 3);
            int both = s.version(0, s.f, 9, s.w, s.v);
            Trial.same(s.length(both), 4);
            Trial.same(s.part(both, 2), s.w);
            Trial.same(s.part(both, 3), s.v);
        });
        Trial.test(6, "its parents are unlike", () -> Trial.badArgument(rich, s -> s.version(0, s.f, 9, s.v, s.v)));
        Trial.test(6, "there is no second parent without a first one",
                () -> Trial.badArgument(rich, s -> s.version(0, s.f, 9, NONE, s.v)));
        Trial.test(6, "a first or second parent is a VERSION", () -> Trial.badArgument(rich,
                s -> s.version(0, s.f, 9, s.t, NONE), s -> s.version(0, s.f, 9, s.f, NONE),
                s -> s.version(0, s.f, 9, s.v, s.t), s -> s.version(0, s.f, 9, s.v, s.c)));
        Trial.test(6, "a first or second parent that was not told is no object", () -> Trial.outOfBounds(rich,
                s -> s.version(0, s.f, 9, -2, NONE), s -> s.version(0, s.f, 9, s.v, -2),
                s -> s.version(0, s.f, 9, NONE, 8900)));
        Trial.test(6, "a first or second parent is there in the store", () -> Trial.badState(rich,
                s -> s.version(1, s.g, 9, s.v, NONE), s -> s.version(1, s.g, 9, s.w, s.v)));
        Trial.test(6, "parents that are there and spoiled are enough", () -> {
            Scene s = Scene.rich();
            s.spoil(0, s.v);
            s.spoil(0, s.v);
            s.spoil(0, s.u);
            s.spoil(0, s.u);
            Trial.same(s.length(s.version(0, s.f, 9, s.v, s.u)), 4);
        });
        Trial.test(6, "parents that are the same are told ahead of one that is not there",
                () -> Trial.badArgument(rich, s -> s.version(1, s.g, 9, s.v, s.v)));
    }

    private static void tags() {
        Trial.Maker rich = Scene::rich;
        Trial.test(7, "a TAG names a VERSION", () -> {
            Scene s = Scene.rich();
            int tag = s.tag(0, s.v);
            Trial.same(s.kind(tag), PackSpring.TAG);
            Trial.same(s.part(tag, 0), s.v);
        });
        Trial.test(7, "a CONTENT, FOLDER or TAG has no TAG", () -> Trial.badArgument(rich, s -> s.tag(0, s.c),
                s -> s.tag(0, s.f), s -> s.tag(0, s.t)));
        Trial.test(7, "NONE is no VERSION", () -> Trial.outOfBounds(rich, s -> s.tag(0, NONE)));
        Trial.test(7, "that there is no such store is told ahead of an object that is no VERSION",
                () -> Trial.outOfBounds(rich, s -> s.tag(2, s.c)));
        Trial.test(7, "that it is no VERSION is told ahead of that it is not there",
                () -> Trial.badArgument(rich, s -> s.tag(1, s.f)));
        Trial.test(7, "the VERSION is there in the store", () -> Trial.badState(rich, s -> s.tag(1, s.v)));
        Trial.test(7, "FOLDER, VERSION and TAG are written into that store alone", () -> {
            for (int store = 0; store < 2; store++) {
                Scene s = new Scene();
                s.f = s.tellFolder(store);
                s.v = s.version(store, s.f, 1, NONE, NONE);
                s.t = s.tag(store, s.v);
                for (int name : s.names()) {
                    Trial.same(s.where(store, name), PackSpring.LOOSE);
                    Trial.same(s.where(1 - store, name), 0);
                }
            }
        });
        Trial.test(7, "a VERSION that is there and spoiled is enough", () -> {
            Scene s = Scene.half();
            s.spoil(0, s.v);
            Trial.same(s.kind(s.tag(0, s.v)), PackSpring.TAG);
        });
    }

    private static Scene crowd() {
        return Scene.crowd(100);
    }

    private static void hundred() {
        Trial.test(8, "nothing was told at first", () -> Trial.same(new Scene().told(), 0));
        Trial.test(8, "the 100th object is told", () -> {
            Scene s = Scene.crowd(99);
            Trial.same(s.told(), 99);
            s.tellContent(1, 1, 1);
            Trial.same(s.told(), 100);
        });
        Trial.test(8, "what is told again does not count again", () -> {
            Scene s = crowd();
            s.tellContent(1, 95);
            Trial.same(s.told(), 100);
        });
        Trial.test(8, "what a crash took was told", () -> {
            Scene s = new Scene();
            int name = s.tellContent(0, 1);
            s.crash(0, 0);
            Trial.same(s.told(), 1);
            Trial.same(s.kind(name), PackSpring.CONTENT);
            Trial.same(s.tellContent(0, 1), name);
        });
        Trial.test(8, "both stores count together", () -> {
            Scene s = new Scene();
            s.tellContent(0, 1);
            s.tellContent(1, 2);
            Trial.same(s.told(), 2);
        });
    }

    private static void hundredTold() {
        Trial.Maker crowd = ObjectBounds::crowd;
        Scene r = crowd();
        Trial.test(4, "a new CONTENT beyond 100 is refused", () -> Trial.badState(draftedAfter(crowd, 1, 1),
                s -> s.content(0), s -> s.content(1)));
        Trial.test(4, "a draft that is no body is told ahead of 100 told",
                () -> Trial.badArgument(draftedAfter(crowd, 1, 100), s -> s.content(0)));
        Trial.test(4, "that there is no such store is told ahead of 100 told",
                () -> Trial.outOfBounds(draftedAfter(crowd, 1, 1), s -> s.content(2)));
        Trial.test(4, "a known CONTENT is told when 100 were told", () -> {
            Scene s = crowd();
            Trial.same(s.tellContent(1, 7), s.tellContent(0, 7));
            Trial.same(s.where(1, s.nth(7)), PackSpring.LOOSE);
        });
        Trial.test(5, "a new FOLDER beyond 100 is refused",
                () -> Trial.badState(draftedAfter(crowd, 1, r.c), s -> s.folder(0)));
        Trial.test(5, "a known FOLDER is told when 100 were told", () -> {
            Scene s = crowd();
            Trial.same(s.tellFolder(0, 0, s.c), s.f);
        });
        Trial.test(6, "a new VERSION beyond 100 is refused",
                () -> Trial.badState(crowd, s -> s.version(0, s.f, 3, NONE, NONE),
                        s -> s.version(0, s.f, 1, s.w, NONE)));
        Trial.test(6, "a known VERSION is told when 100 were told", () -> {
            Scene s = crowd();
            Trial.same(s.version(0, s.f, 2, s.v, NONE), s.w);
        });
        Trial.test(7, "a new TAG beyond 100 is refused", () -> Trial.badState(crowd, s -> s.tag(0, s.w)));
        Trial.test(7, "a known TAG is told when 100 were told", () -> {
            Scene s = crowd();
            Trial.same(s.tag(0, s.v), s.t);
        });
        Trial.test(7, "that it is no VERSION is told ahead of 100 told",
                () -> Trial.badArgument(crowd, s -> s.tag(0, s.t)));
    }

    private static void bodies() {
        Trial.Maker rich = Scene::rich;
        Trial.test(9, "the kinds are CONTENT 0, FOLDER 1, VERSION 2 and TAG 3", () -> {
            Scene s = Scene.rich();
            Trial.same(s.kind(s.c), 0);
            Trial.same(s.kind(s.f), 1);
            Trial.same(s.kind(s.v), 2);
            Trial.same(s.kind(s.t), 3);
        });
        Trial.test(10, "the body of a VERSION has 2 to 4 numbers, of a TAG 1", () -> {
            Scene s = Scene.rich();
            Trial.same(s.length(s.v), 2);
            Trial.same(s.length(s.w), 3);
            Trial.same(s.length(s.version(0, s.f, 1, s.v, s.w)), 4);
            Trial.same(s.length(s.t), 1);
        });
        Trial.test(11, "the first and the last place of a body", () -> {
            Scene s = Scene.rich();
            Trial.same(s.part(s.d, 0), 1);
            Trial.same(s.part(s.d, 3), 3);
            Trial.same(s.part(s.g, 0), 0);
            Trial.same(s.part(s.g, 3), s.d);
            Trial.same(s.part(s.w, 0), s.g);
            Trial.same(s.part(s.w, 2), s.v);
            Trial.same(s.part(s.t, 0), s.w);
        });
        Trial.test(11, "there is no place below 0", () -> Trial.outOfBounds(rich, s -> s.part(s.d, -1),
                s -> s.part(s.d, MIN)));
        Trial.test(11, "there is no place beyond the last one", () -> Trial.outOfBounds(rich, s -> s.part(s.d, 4),
                s -> s.part(s.g, 4), s -> s.part(s.v, 2), s -> s.part(s.w, 3), s -> s.part(s.t, 1),
                s -> s.part(s.d, MAX)));
        Trial.test(11, "a body of 12 has a place 11 and no place 12", () -> {
            Trial.Maker twelve = () -> {
                Scene s = full();
                s.c = s.content(0);
                return s;
            };
            Trial.same(twelve.make().part(twelve.make().c, 11), 11);
            Trial.outOfBounds(twelve, s -> s.part(s.c, 12));
        });
        Trial.test(11, "an empty body has no place 0", () -> {
            Trial.Maker empty = () -> {
                Scene s = new Scene();
                s.c = s.content(0);
                return s;
            };
            Trial.outOfBounds(empty, s -> s.part(s.c, 0), s -> s.read(0, s.c, 0));
        });
        Trial.test(9, "the name next to a told one was not told",
                () -> Trial.outOfBounds(rich, s -> s.kind(s.c + 1), s -> s.kind(s.c - 1)));
    }
}
