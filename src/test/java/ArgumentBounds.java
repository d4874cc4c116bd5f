/** For every call with a store or with names: those that are not are refused, and change nothing. */
final class ArgumentBounds {
    private static final int NONE = Scene.NONE;
    private static final int[] NO_STORES = {-1, 2, Integer.MIN_VALUE, Integer.MAX_VALUE};
    private static final int[] NO_NAMES = {-2, Integer.MIN_VALUE, Integer.MAX_VALUE, 8900, 9999};

    private interface CallWith {
        Object on(Scene s, int argument);
    }

    private ArgumentBounds() {
    }

    static void run() {
        storesOfObjects();
        storesOfReferences();
        storesOfPacks();
        names();
        namesInStores();
        noneAsName();
    }

    private static void refuse(int promise, String what, int[] arguments, CallWith call) {
        Trial.Maker rich = Scene::rich;
        Trial.test(promise, what, () -> {
            for (int argument : arguments) {
                Trial.outOfBounds(rich, s -> call.on(s, argument));
            }
        });
    }

    private static void store(int promise, String name, CallWith call) {
        refuse(promise, name + ": there are the stores 0 and 1 alone", NO_STORES, call);
        Trial.test(promise, name + ": there are the stores 0 and 1", () -> {
            for (int at = 0; at < 2; at++) {
                try {
                    call.on(Scene.rich(), at);
                } catch (IllegalArgumentException | IllegalStateException e) {
                    continue;
                }
            }
        });
    }

    private static void name(int promise, String what, CallWith call) {
        refuse(promise, what + " was told", NO_NAMES, call);
    }

    private static void storesOfObjects() {
        store(4, "content", (s, store) -> s.content(store));
        store(5, "folder", (s, store) -> s.folder(store));
        store(6, "version", (s, store) -> s.version(store, s.f, 5, NONE, NONE));
        store(7, "tag", (s, store) -> s.tag(store, s.v));
        store(12, "read", (s, store) -> s.read(store, s.c, 0));
        store(13, "where", (s, store) -> s.where(store, s.c));
        store(14, "sync", (s, store) -> s.sync(store));
        store(15, "unsynced", (s, store) -> s.unsynced(store));
        store(16, "crash", (s, store) -> s.crash(store, 0));
    }

    private static void storesOfReferences() {
        store(18, "expect", (s, store) -> s.expect(store, 4, NONE, NONE));
        store(19, "commit", (s, store) -> s.commit(store));
        store(20, "ref", (s, store) -> s.ref(store, 0));
        store(21, "logs", (s, store) -> s.logs(store));
        store(22, "isWhole", (s, store) -> s.isWhole(store, s.c));
        store(23, "isShallow", (s, store) -> s.isShallow(store, s.w));
        store(24, "replace", (s, store) -> s.replace(store, s.u, NONE));
        store(25, "walk", (s, store) -> s.walk(store, s.v, NONE));
        store(27, "choose", (s, store) -> s.choose(store, s.w));
        store(28, "chosen", (s, store) -> s.chosen(store));
        store(29, "reach", (s, store) -> s.reach(store, s.w));
        store(30, "reachByRounds", (s, store) -> s.reachByRounds(store, s.w));
    }

    private static void storesOfPacks() {
        store(31, "pack", (s, store) -> s.pack(store, 8, 8));
        store(32, "packs", (s, store) -> s.packs(store));
        store(33, "entries", (s, store) -> s.entries(store, 0));
        store(34, "size", (s, store) -> s.size(store, 0));
        store(35, "base", (s, store) -> s.base(store, 0, 0));
        store(36, "pin", (s, store) -> s.pin(store, s.c));
        store(37, "sweep", (s, store) -> s.sweep(store));
        store(39, "fetch", (s, store) -> s.fetch(store, 0, 0, false));
        store(40, "push", (s, store) -> s.push(store, 0));
        store(41, "spoil", (s, store) -> s.spoil(store, s.g));
        store(42, "missing", (s, store) -> s.missing(store));
        refuse(43, "missingAt: there are the stores 0 and 1 alone", NO_STORES, (s, store) -> s.missingAt(store, 0));
        store(44, "mend", (s, store) -> s.mend(store));
    }

    private static void names() {
        name(6, "the folder of a version", (s, name) -> s.version(0, name, 5, NONE, NONE));
        name(6, "the first parent of a version", (s, name) -> s.version(0, s.f, 5, name, NONE));
        name(6, "the second parent of a version", (s, name) -> s.version(0, s.f, 5, s.v, name));
        name(7, "the version of a tag", (s, name) -> s.tag(0, name));
        name(9, "an object with a kind", (s, name) -> s.kind(name));
        name(10, "an object with a length", (s, name) -> s.length(name));
        name(11, "an object with parts", (s, name) -> s.part(name, 0));
        name(24, "what is replaced", (s, name) -> s.replace(0, name, NONE));
        name(24, "what it is replaced by", (s, name) -> s.replace(0, s.u, name));
        name(25, "what is walked from", (s, name) -> s.walk(0, name, NONE));
        name(25, "what is hidden", (s, name) -> s.walk(0, s.w, name));
    }

    private static void namesInStores() {
        name(12, "what is read", (s, name) -> s.read(0, name, 0));
        name(13, "an object that is somewhere", (s, name) -> s.where(0, name));
        name(18, "what a reference should be", (s, name) -> s.expect(0, 4, name, NONE));
        name(18, "what a reference is to become", (s, name) -> s.expect(0, 4, NONE, name));
        name(22, "what may be whole", (s, name) -> s.isWhole(0, name));
        name(23, "what may be shallow", (s, name) -> s.isShallow(1, name));
        name(27, "what is chosen", (s, name) -> s.choose(0, name));
        name(29, "what reaches", (s, name) -> s.reach(0, name));
        name(30, "what reaches by rounds", (s, name) -> s.reachByRounds(0, name));
        name(36, "what is pinned", (s, name) -> s.pin(0, name));
        name(41, "what is spoiled", (s, name) -> s.spoil(0, name));
    }

    private static void noneAsName() {
        int[] none = {NONE};
        refuse(9, "NONE has no kind", none, (s, name) -> s.kind(name));
        refuse(10, "NONE has no length", none, (s, name) -> s.length(name));
        refuse(11, "NONE has no parts", none, (s, name) -> s.part(name, 0));
        refuse(12, "NONE is not read", none, (s, name) -> s.read(0, name, 0));
        refuse(13, "NONE is not anywhere", none, (s, name) -> s.where(0, name));
        refuse(22, "NONE is not whole", none, (s, name) -> s.isWhole(0, name));
        refuse(23, "NONE is not shallow", none, (s, name) -> s.isShallow(0, name));
        refuse(29, "NONE reaches nothing", none, (s, name) -> s.reach(0, name));
        refuse(30, "NONE reaches nothing by rounds", none, (s, name) -> s.reachByRounds(0, name));
        refuse(36, "NONE is not pinned", none, (s, name) -> s.pin(0, name));
        refuse(41, "NONE is not spoiled", none, (s, name) -> s.spoil(0, name));
    }
}
