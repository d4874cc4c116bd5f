/** For each promise what it gives, its edges and its wrong inputs, each on new objects. */
public final class PromiseTests {
    private static final int NONE = PackSpring.NONE;
    private static int wrong = 0;
    private static int checks = 0;

    private interface Call {
        Object of();
    }

    public static void main(String[] args) {
        objects();
        disks();
        references();
        walks();
        packing();
        sending();
        spoiling();
        diskEdges();
        walkEdges();
        sweepEdges();
        sendEdges();
        System.out.println((checks - wrong) + " passed, " + wrong + " failed");
        if (wrong != 0) {
            System.exit(1);
        }
    }

    // ---- helpers

    private static void same(int promise, long got, long want) {
        checks++;
        if (got != want) {
            wrong++;
            StackTraceElement[] trace = new Throwable().getStackTrace();
            int line = trace[1].getMethodName().equals("is") ? trace[2].getLineNumber() : trace[1].getLineNumber();
            System.out.println("promise " + promise + ", line " + line + ": answered " + got + ", due is " + want);
        }
    }

    private static void is(int promise, boolean got, boolean want) {
        same(promise, got ? 1 : 0, want ? 1 : 0);
    }

    private static void outOfBounds(int promise, Call... calls) {
        refused(promise, IndexOutOfBoundsException.class, calls);
    }

    private static void badArgument(int promise, Call... calls) {
        refused(promise, IllegalArgumentException.class, calls);
    }

    private static void badState(int promise, Call... calls) {
        refused(promise, IllegalStateException.class, calls);
    }

    private static void refused(int promise, Class<?> due, Call... calls) {
        for (int k = 0; k < calls.length; k++) {
            checks++;
            String got = "nothing";
            try {
                calls[k].of();
            } catch (RuntimeException e) {
                if (e.getClass() == due) {
                    continue;
                }
                got = e.getClass().getName();
            }
            wrong++;
            int line = new Throwable().getStackTrace()[2].getLineNumber();
            System.out.println("promise " + promise + ", line " + line + ", call " + k + ": threw " + got
                    + ", due is " + due.getSimpleName());
        }
    }

    private static void draft(PackSpring x, int... numbers) {
        x.clear();
        for (int number : numbers) {
            x.put(number);
        }
    }

    private static int content(PackSpring x, int store, int... numbers) {
        draft(x, numbers);
        return x.content(store);
    }

    private static int folder(PackSpring x, int store, int... entries) {
        draft(x, entries);
        return x.folder(store);
    }

    /** A VERSION with a folder and a content of its own. */
    private static int version(PackSpring x, int store, int number, int one, int other) {
        int folder = folder(x, store, 0, content(x, store, number, number, number));
        return x.version(store, folder, number, one, other);
    }

    private static void moveTo(PackSpring x, int store, int ref, int now) {
        x.expect(store, ref, x.ref(store, ref), now);
        is(19, x.commit(store), true);
    }

    // ---- promises 1 to 13

    private static void objects() {
        newObject();
        drafts();
        contents();
        folders();
        versionsAndTags();
        hundred();
        bodies();
        reads();
    }

    private static void newObject() {
        PackSpring x = new PackSpring();
        same(1, x.told(), 0);
        same(1, x.clear(), 0);
        for (int store = 0; store < 2; store++) {
            same(1, x.unsynced(store) + x.logs(store) + x.packs(store) + x.chosen(store) + x.missing(store), 0);
            for (int ref = 0; ref < 6; ref++) {
                same(1, x.ref(store, ref), NONE);
            }
        }
        same(1, x.mend(0), 0);
        is(1, x.line(), false);
        outOfBounds(1, () -> x.walkAt(0));
    }

    private static void drafts() {
        PackSpring x = new PackSpring();
        same(2, x.put(0), 1);
        same(2, x.put(9999), 2);
        badArgument(2, () -> x.put(-1), () -> x.put(10000));
        same(3, x.clear(), 2);
        same(3, x.clear(), 0);
        for (int k = 1; k <= 12; k++) {
            same(2, x.put(k), k);
        }
        badState(2, () -> x.put(1));
        badArgument(2, () -> x.put(10000));
        same(3, x.clear(), 12);
    }

    private static void contents() {
        PackSpring x = new PackSpring();
        same(4, content(x, 0), 0);
        same(4, content(x, 0, 0), 1);
        same(4, content(x, 0, 0, 0), 2);
        same(4, content(x, 0), 0);
        same(4, content(x, 0, 1, 2, 3), 1400);
        same(4, content(x, 1, 99, 99), 100 * (297 % 89));
        same(4, content(x, 1, 0, 0), 2);
        same(4, x.where(1, 2), PackSpring.LOOSE);
        same(4, x.clear(), 0);
        same(4, x.told(), 5);
        same(4, x.unsynced(0), 4);
        draft(x, 5, 100);
        outOfBounds(4, () -> x.content(2), () -> x.content(-1));
        badArgument(4, () -> x.content(0));
        same(4, x.clear(), 2);
    }

    private static void folders() {
        PackSpring x = new PackSpring();
        int c = content(x, 0, 1, 2, 3);
        int f = folder(x, 0, 0, c);
        same(5, f, 7200);
        same(5, folder(x, 0, 0, c), 7200);
        same(5, folder(x, 0, 0, c, 9, f), 100 * ((31 + 2 * 1400 + 3 * 9 + 4 * 7200) % 89));
        same(5, x.clear(), 0);
        same(5, folder(x, 0), 3100);
        int v = x.version(0, f, 1, NONE, NONE);
        int[][] bad = {{0}, {10, c}, {0, c, 0, c}, {1, c, 0, c}, {0, v}, {0, 1401}, {0, c, 1}};
        for (int[] body : bad) {
            draft(x, body);
            badArgument(5, () -> x.folder(0));
            outOfBounds(5, () -> x.folder(2));
            same(5, x.clear(), body.length);
        }
        draft(x, 0, c);
        badState(5, () -> x.folder(1));
        same(5, x.clear(), 2);
        same(5, folder(x, 0, 0, c, 1, c, 2, c, 3, c, 4, c, 9, c) >= 0 ? 1 : 0, 1);
    }

    private static void versionsAndTags() {
        PackSpring x = new PackSpring();
        int c = content(x, 0, 1, 2, 3);
        int f = folder(x, 0, 0, c);
        int v = x.version(0, f, 5, NONE, NONE);
        same(6, v, 6300);
        int w = x.version(0, f, 9999, v, NONE);
        int m = x.version(0, f, 0, v, w);
        same(6, x.length(m), 4);
        same(6, x.part(m, 2), v);
        same(6, x.part(m, 3), w);
        same(6, x.version(0, f, 5, NONE, NONE), v);
        outOfBounds(6, () -> x.version(2, f, 0, NONE, NONE), () -> x.version(0, 1, 0, NONE, NONE),
                () -> x.version(0, f, 0, 1, NONE), () -> x.version(0, c, -1, v, 1), () -> x.version(0, NONE, 0, NONE, NONE));
        badArgument(6, () -> x.version(0, c, 0, NONE, NONE), () -> x.version(0, f, -1, NONE, NONE),
                () -> x.version(0, f, 10000, NONE, NONE), () -> x.version(0, f, 0, f, NONE),
                () -> x.version(0, f, 0, v, c), () -> x.version(0, f, 0, v, v), () -> x.version(1, f, 0, NONE, v));
        badState(6, () -> x.version(1, f, 0, NONE, NONE), () -> x.version(1, f, 5, v, NONE));
        content(x, 1, 1, 2, 3);
        folder(x, 1, 0, c);
        badState(6, () -> x.version(1, f, 5, v, NONE));
        same(6, x.version(1, f, 5, NONE, NONE), v);
        badState(6, () -> x.version(1, f, 0, v, w));
        int t = x.tag(0, v);
        same(7, t, 7400);
        same(7, x.tag(1, v), t);
        same(7, x.where(1, t), 1);
        outOfBounds(7, () -> x.tag(2, v), () -> x.tag(0, 1));
        badArgument(7, () -> x.tag(0, f), () -> x.tag(1, t));
        badState(7, () -> x.tag(1, w));
        same(7, x.told(), 6);
    }

    private static void hundred() {
        PackSpring x = new PackSpring();
        int c = content(x, 0, 1);
        int f = folder(x, 0, 0, c);
        int v = x.version(0, f, 0, NONE, NONE);
        for (int k = 0; k < 97; k++) {
            content(x, 0, 2, k);
        }
        same(8, x.told(), 100);
        draft(x, 3);
        badState(4, () -> x.content(0));
        same(4, x.clear(), 1);
        draft(x, 1, c);
        badState(5, () -> x.folder(0));
        badState(6, () -> x.version(0, f, 1, NONE, NONE));
        badState(7, () -> x.tag(0, v));
        same(8, content(x, 1, 2, 96), content(x, 0, 2, 96));
        same(8, x.told(), 100);
    }

    private static void bodies() {
        PackSpring x = new PackSpring();
        int c = content(x, 0, 4, 5);
        int f = folder(x, 0, 3, c);
        int v = x.version(0, f, 8, NONE, NONE);
        int t = x.tag(0, v);
        same(9, x.kind(c), PackSpring.CONTENT);
        same(9, x.kind(f), PackSpring.FOLDER);
        same(9, x.kind(v), PackSpring.VERSION);
        same(9, x.kind(t), PackSpring.TAG);
        outOfBounds(9, () -> x.kind(NONE), () -> x.kind(c + 1), () -> x.kind(Integer.MAX_VALUE));
        same(10, x.length(c) * 1000 + x.length(f) * 100 + x.length(v) * 10 + x.length(t), 2221);
        same(10, x.length(content(x, 0)), 0);
        outOfBounds(10, () -> x.length(-2));
        same(11, x.part(c, 1), 5);
        same(11, x.part(f, 0), 3);
        same(11, x.part(f, 1), c);
        same(11, x.part(v, 1), 8);
        same(11, x.part(t, 0), v);
        outOfBounds(11, () -> x.part(c, 2), () -> x.part(c, -1), () -> x.part(c + 1, 0), () -> x.part(content(x, 0), 0));
    }

    private static void reads() {
        PackSpring x = new PackSpring();
        int c = content(x, 0, 4, 5);
        same(12, x.read(0, c, 1), 5);
        outOfBounds(12, () -> x.read(2, c, 0), () -> x.read(0, c + 1, 0), () -> x.read(1, c, 2), () -> x.read(0, c, -1));
        badState(12, () -> x.read(1, c, 0));
        same(13, x.where(0, c), PackSpring.LOOSE);
        same(13, x.where(1, c), 0);
        x.pack(0, 0, 0);
        same(13, x.where(0, c), PackSpring.LOOSE + PackSpring.PACKED);
        same(12, x.spoil(0, c), NONE);
        same(12, x.read(0, c, 0), 4);
        same(12, x.spoil(0, c), 0);
        badState(12, () -> x.read(0, c, 0));
        same(13, x.where(0, c), PackSpring.LOOSE + PackSpring.PACKED);
        outOfBounds(13, () -> x.where(2, c), () -> x.where(0, c + 1));
        readOverLine();
    }

    private static void readOverLine() {
        PackSpring x = new PackSpring();
        int v = version(x, 0, 7, NONE, NONE);
        int c = x.part(x.part(v, 0), 1);
        moveTo(x, 0, 0, v);
        same(12, x.fetch(0, 0, 0, true), 2);
        same(13, x.where(1, c), PackSpring.PROMISED);
        x.line();
        badState(12, () -> x.read(1, c, 0));
        x.line();
        x.spoil(0, c);
        badState(12, () -> x.read(1, c, 0));
        same(12, content(x, 0, 7, 7, 7), c);
        int deeds = x.unsynced(1);
        same(12, x.read(1, c, 2), 7);
        same(12, x.unsynced(1), deeds + 1);
        same(13, x.where(1, c), PackSpring.LOOSE + PackSpring.PROMISED);
        x.spoil(1, c);
        badState(12, () -> x.read(1, c, 2));
    }

    // ---- promises 14 to 17

    private static void disks() {
        PackSpring x = new PackSpring();
        int c = content(x, 0, 1);
        int d = content(x, 0, 2);
        content(x, 0, 1);
        same(15, x.unsynced(0), 2);
        same(15, x.unsynced(1), 0);
        same(14, x.sync(0), 2);
        same(14, x.sync(0), 0);
        outOfBounds(14, () -> x.sync(2), () -> x.sync(-1));
        outOfBounds(15, () -> x.unsynced(2));
        same(16, x.crash(0, 0), 0);
        same(16, x.where(0, c) + x.where(0, d), 2);
        for (int k = 0; k < 30; k++) {
            content(x, 1, 3, k);
            same(15, x.unsynced(1), k + 1);
        }
        int last = content(x, 1, 4, 4);
        same(15, x.unsynced(1), 1);
        same(16, x.crash(1, 0), 1);
        same(16, x.where(1, last), 0);
        same(16, x.where(1, content(x, 0, 3, 29)), 1);
        same(16, x.told(), 33);
        badArgument(16, () -> x.crash(0, -1), () -> x.crash(0, 1073741824));
        outOfBounds(16, () -> x.crash(2, -1));
        same(17, x.tick(1), 1);
        same(17, x.tick(100), 101);
        badArgument(17, () -> x.tick(0), () -> x.tick(101));
        crashByRules();
        crashOfCopies();
    }

    private static void crashByRules() {
        PackSpring x = new PackSpring();
        int v = version(x, 0, 1, NONE, NONE);
        moveTo(x, 0, 0, v);
        int c = content(x, 0, 9);
        x.pin(0, c);
        x.choose(0, v);
        x.expect(0, 1, NONE, v);
        same(16, x.unsynced(0), 5);
        same(16, x.crash(0, 8 + 16 + 2), 3);
        same(16, x.ref(0, 0), NONE);
        same(16, x.logs(0), 0);
        same(16, x.where(0, c), 1);
        same(16, x.where(0, v), 0);
        same(16, x.where(0, x.part(v, 0)), 1);
        same(16, x.unsynced(0), 0);
        same(16, x.chosen(0), 0);
        badState(16, () -> x.commit(0));
        is(16, x.pin(0, c), true);
        PackSpring y = new PackSpring();
        int w = version(y, 0, 1, NONE, NONE);
        y.pack(0, 0, 0);
        y.sync(0);
        same(16, y.sweep(0), 3);
        same(16, y.crash(0, 5), 2);
        same(16, y.where(0, y.part(y.part(w, 0), 1)), 2);
        same(16, y.where(0, y.part(w, 0)), 3);
        same(16, y.sweep(0), 2);
        same(16, y.crash(0, 2), 2);
        same(16, y.where(0, w), 3);
    }

    /** That a copy is spoiled stays; that another one stands in its place may be lost. */
    private static void crashOfCopies() {
        PackSpring x = new PackSpring();
        int c = content(x, 0, 1);
        x.sync(0);
        same(16, x.spoil(0, c), NONE);
        content(x, 0, 1);
        same(16, x.read(0, c, 0), 1);
        same(16, x.crash(0, 0), 1);
        badState(16, () -> x.read(0, c, 0));
        content(x, 0, 1);
        same(16, x.crash(0, 1), 0);
        same(16, x.read(0, c, 0), 1);
        same(16, x.spoil(0, c), NONE);
        content(x, 0, 1);
        same(16, x.spoil(0, c), NONE);
        content(x, 0, 1);
        same(16, x.unsynced(0), 2);
        same(16, x.crash(0, 1), 1);
        badState(16, () -> x.read(0, c, 0));
        int number = content(x, 0, 2) >= 0 ? x.pack(0, 0, 0) : NONE;
        same(16, number, 0);
        same(16, x.crash(0, 1), 1);
        outOfBounds(16, () -> x.entries(0, 0));
        same(16, x.pack(0, 0, 0), 1);
    }

    // ---- promises 18 to 23

    private static void references() {
        PackSpring x = new PackSpring();
        int v = version(x, 0, 1, NONE, NONE);
        int w = version(x, 0, 2, v, NONE);
        int t = x.tag(0, w);
        int c = content(x, 0, 50);
        same(18, x.expect(0, 5, NONE, t), 1);
        same(18, x.expect(0, 0, NONE, v), 2);
        same(18, x.expect(0, 1, NONE, NONE), 3);
        outOfBounds(18, () -> x.expect(2, 0, NONE, v), () -> x.expect(0, 6, NONE, v), () -> x.expect(0, -1, NONE, v),
                () -> x.expect(0, 2, c + 1, c), () -> x.expect(0, 2, NONE, -2));
        badArgument(18, () -> x.expect(0, 2, NONE, c), () -> x.expect(0, 5, NONE, v));
        int deeds = x.unsynced(0);
        x.tick(3);
        is(19, x.commit(0), true);
        same(19, x.unsynced(0), deeds + 1);
        same(21, x.logs(0), 2);
        same(20, x.ref(0, 5), t);
        same(20, x.ref(0, 0), v);
        same(20, x.ref(0, 1), NONE);
        same(20, x.ref(1, 0), NONE);
        outOfBounds(20, () -> x.ref(2, 0), () -> x.ref(0, 6), () -> x.ref(0, -1));
        outOfBounds(21, () -> x.logs(-1));
        badState(19, () -> x.commit(0));
        outOfBounds(19, () -> x.commit(2));
        x.expect(0, 0, v, w);
        x.expect(0, 1, c, w);
        is(19, x.commit(0), false);
        same(19, x.ref(0, 0), v);
        same(19, x.unsynced(0), deeds + 1);
        badState(19, () -> x.commit(0));
        x.expect(0, 0, v, v);
        is(19, x.commit(0), true);
        same(19, x.unsynced(0), deeds + 2);
        same(21, x.logs(0), 2);
        x.expect(1, 0, NONE, v);
        badState(19, () -> x.commit(1));
        badArgument(19, () -> x.expect(1, 0, NONE, v));
        x.expect(1, 1, v, NONE);
        is(19, x.commit(1), false);
        same(19, x.unsynced(1), 0);
        wholes(x, v, w, t);
    }

    private static void wholes(PackSpring x, int v, int w, int t) {
        is(22, x.isWhole(0, t), true);
        is(22, x.isWhole(1, t), false);
        outOfBounds(22, () -> x.isWhole(2, v), () -> x.isWhole(0, NONE));
        outOfBounds(23, () -> x.isShallow(2, v), () -> x.isShallow(0, NONE));
        same(23, x.fetch(0, 5, 1, true), 3);
        is(23, x.isShallow(1, w), true);
        is(23, x.isShallow(1, v), false);
        is(23, x.isShallow(1, t), false);
        is(23, x.isShallow(0, w), false);
        is(22, x.isWhole(1, t), true);
        is(22, x.isWhole(1, v), false);
        x.spoil(1, w);
        is(22, x.isWhole(1, t), true);
        same(23, x.fetch(0, 0, 0, false), 3);
        is(23, x.isShallow(1, w), true);
        same(23, x.fetch(0, 5, 1, false), 1);
        is(23, x.isShallow(1, w), false);
    }

    // ---- promises 24 to 30

    private static void walks() {
        PackSpring x = new PackSpring();
        int a = version(x, 0, 1, NONE, NONE);
        int b = version(x, 0, 2, a, NONE);
        int c = version(x, 0, 3, a, NONE);
        int d = version(x, 0, 4, b, c);
        int f = x.part(a, 0);
        same(25, x.walk(0, d, NONE), 4);
        same(26, x.walkAt(0), d);
        same(26, x.walkAt(1), c);
        same(26, x.walkAt(2), b);
        same(26, x.walkAt(3), a);
        outOfBounds(26, () -> x.walkAt(4), () -> x.walkAt(-1));
        outOfBounds(25, () -> x.walk(2, d, NONE), () -> x.walk(0, f + 1, NONE), () -> x.walk(0, f, -2),
                () -> x.walk(0, NONE, NONE));
        badArgument(25, () -> x.walk(0, f, NONE), () -> x.walk(0, d, f));
        same(26, x.walkAt(3), a);
        same(25, x.walk(1, d, b), 2);
        same(26, x.walkAt(1), c);
        same(25, x.walk(0, b, b), 0);
        outOfBounds(26, () -> x.walkAt(0));
        int e = x.version(0, f, 2, a, NONE);
        int m = x.version(0, f, 0, b, e);
        same(25, x.walk(0, m, a), 3);
        same(26, x.walkAt(1), Math.min(b, e));
        same(26, x.walkAt(2), Math.max(b, e));
        replaces(x, a, b, c, d);
        choices();
    }

    private static void replaces(PackSpring x, int a, int b, int c, int d) {
        int f = x.part(a, 0);
        int deeds = x.unsynced(0);
        same(24, x.replace(0, b, a), NONE);
        same(24, x.unsynced(0), deeds + 1);
        same(25, x.walk(0, b, NONE), 1);
        same(24, x.replace(0, c, b), NONE);
        same(25, x.walk(0, c, NONE), 2);
        same(26, x.walkAt(1), a);
        same(25, x.walk(0, d, NONE), 4);
        same(26, x.walkAt(1), c);
        same(26, x.walkAt(2), b);
        same(25, x.walk(1, b, NONE), 2);
        same(24, x.replace(0, c, NONE), b);
        same(24, x.replace(0, b, NONE), a);
        outOfBounds(24, () -> x.replace(2, a, b), () -> x.replace(0, f + 1, a), () -> x.replace(0, f, -2),
                () -> x.replace(0, NONE, a));
        badArgument(24, () -> x.replace(0, f, NONE), () -> x.replace(0, a, f), () -> x.replace(1, a, a));
        badState(24, () -> x.replace(1, a, b), () -> x.replace(0, a, b), () -> x.replace(0, a, d));
        same(25, x.walk(0, a, NONE), 1);
        int z = version(x, 0, 40, NONE, NONE);
        same(24, x.replace(0, b, z), NONE);
        int y = version(x, 0, 41, b, NONE);
        same(24, x.replace(0, a, y), NONE);
        badState(24, () -> x.replace(0, b, NONE));
        same(24, x.replace(0, b, z), z);
    }

    private static void choices() {
        PackSpring x = new PackSpring();
        int[] line = new int[6];
        for (int k = 0; k < 6; k++) {
            line[k] = version(x, 0, k, k == 0 ? NONE : line[k - 1], NONE);
        }
        for (int k = 0; k < 4; k++) {
            same(27, x.choose(0, line[k]), k + 1);
        }
        badState(27, () -> x.choose(0, line[5]), () -> x.choose(1, line[0]));
        same(28, x.chosen(0), 4);
        same(28, x.chosen(1), 0);
        outOfBounds(28, () -> x.chosen(2));
        outOfBounds(27, () -> x.choose(2, line[0]), () -> x.choose(0, NONE));
        badArgument(27, () -> x.choose(0, x.part(line[0], 0)));
        same(29, x.reach(0, line[5]), 18);
        same(30, x.reachByRounds(0, line[5]), 18);
        same(29, x.reach(0, x.part(line[0], 0)), 2);
        same(29, x.reach(1, line[2]), 9);
        outOfBounds(29, () -> x.reach(2, line[0]), () -> x.reach(0, NONE));
        outOfBounds(30, () -> x.reachByRounds(2, line[0]), () -> x.reachByRounds(0, NONE));
        moveTo(x, 0, 0, line[5]);
        same(27, x.fetch(0, 0, 2, false), 6);
        same(27, x.choose(1, line[5]), 1);
        badState(27, () -> x.choose(1, line[5]), () -> x.choose(1, line[3]));
        same(29, x.reach(1, line[5]), 6);
        same(30, x.reachByRounds(1, line[5]), 6);
        same(27, x.fetch(0, 0, 2, false), 0);
        same(28, x.chosen(1), 1);
        same(27, x.fetch(0, 0, 3, false), 3);
        same(28, x.chosen(1), 0);
        same(29, x.reach(1, line[5]), 9);
        same(28, x.chosen(0), 4);
    }

    // ---- promises 31 to 37

    private static void packing() {
        PackSpring x = new PackSpring();
        int a = content(x, 0, 1, 2, 3, 4, 5, 6);
        int b = content(x, 0, 1, 2, 9, 4, 5, 6);
        int c = content(x, 0, 1, 2, 9, 4, 8, 6);
        int s = content(x, 0, 7);
        int f = folder(x, 0, 0, a);
        outOfBounds(31, () -> x.pack(2, 9, 0));
        badArgument(31, () -> x.pack(0, 9, 0), () -> x.pack(0, -1, 0), () -> x.pack(0, 0, 9), () -> x.pack(0, 0, -1));
        same(31, x.pack(1, 8, 8), NONE);
        same(31, x.pack(0, 8, 8), 0);
        same(31, x.pack(0, 8, 8), NONE);
        same(32, x.packs(0), 1);
        same(32, x.packs(1), 0);
        outOfBounds(32, () -> x.packs(2));
        same(33, x.entries(0, 0), 5);
        outOfBounds(33, () -> x.entries(2, 0), () -> x.entries(0, 1), () -> x.entries(0, -1), () -> x.entries(1, 0));
        outOfBounds(34, () -> x.size(2, 0), () -> x.size(0, 1), () -> x.size(0, -1));
        outOfBounds(35, () -> x.base(2, 0, 0), () -> x.base(0, 1, 0), () -> x.base(0, 0, 5), () -> x.base(0, 0, -1));
        bases(a, b, c);
        same(35, x.base(0, 0, 0), NONE);
        same(35, x.base(0, 0, 3), NONE);
        same(35, x.base(0, 0, 4), NONE);
        same(34, x.size(0, 0), 6 + 3 + 3 + 1 + 2);
        same(31, x.where(0, f) + x.where(0, s), 6);
        spoilsInPacks();
        manyPacks();
        sweeps();
    }

    /** Names 6: of equal lengths the lower name first, so which is whose base goes by names. */
    private static void bases(int a, int b, int c) {
        PackSpring x = new PackSpring();
        content(x, 0, 1, 2, 3, 4, 5, 6);
        content(x, 0, 1, 2, 9, 4, 5, 6);
        content(x, 0, 1, 2, 9, 4, 8, 6);
        x.sync(0);
        x.pack(0, 1, 1);
        same(35, x.entries(0, 0), 3);
        same(35, x.base(0, 0, 1), Math.min(a, Math.min(b, c)));
        same(35, x.base(0, 0, 2), NONE);
        x.crash(0, 0);
        x.pack(0, 2, 1);
        same(35, x.base(0, 1, 2), Math.min(a, Math.min(b, c)));
        x.crash(0, 0);
        x.pack(0, 2, 0);
        same(34, x.size(0, 2), 18);
        x.crash(0, 0);
        x.pack(0, 0, 8);
        same(34, x.size(0, 3), 18);
        PackSpring y = new PackSpring();
        int d = content(y, 0, 1, 1);
        int e = content(y, 0, 1, 1, 1);
        int g = content(y, 0, 1, 1, 1, 1);
        y.pack(0, 8, 8);
        same(34, y.size(0, 0), 4 + 2 + 2);
        same(35, y.base(0, 0, 1), g);
        same(35, y.base(0, 0, 2), NONE);
        same(33, y.where(0, d) + y.where(0, e), 6);
    }

    private static void spoilsInPacks() {
        PackSpring x = new PackSpring();
        int a = content(x, 0, 5, 5, 5, 5, 1);
        int b = content(x, 0, 5, 5, 5, 5, 2);
        int low = Math.min(a, b);
        int high = Math.max(a, b);
        x.pack(0, 1, 1);
        same(35, x.base(0, 0, 1), low);
        x.tick(20);
        x.pin(0, a);
        x.pin(0, b);
        same(37, x.sweep(0), 2);
        same(41, x.spoil(0, low), 0);
        badState(12, () -> x.read(0, high, 0));
        same(31, x.pack(0, 1, 1), NONE);
        content(x, 0, 5, 5, 5, 5, high == a ? 1 : 2);
        same(31, x.where(0, high), 3);
        same(31, x.pack(0, 1, 1), 1);
        same(41, x.spoil(0, high), NONE);
        same(41, x.spoil(0, high), 1);
        same(41, x.spoil(0, high), 0);
        badState(41, () -> x.spoil(0, high), () -> x.spoil(0, low));
    }

    private static void manyPacks() {
        PackSpring x = new PackSpring();
        for (int k = 0; k < 20; k++) {
            content(x, 0, k);
            same(31, x.pack(0, 0, 0), k);
        }
        same(31, x.pack(0, 0, 0), NONE);
        int c = content(x, 0, 20);
        badState(31, () -> x.pack(0, 0, 0));
        badArgument(31, () -> x.pack(0, 0, 9));
        same(31, x.where(0, c), 1);
        int v = version(x, 1, 30, NONE, NONE);
        moveTo(x, 1, 0, v);
        badState(39, () -> x.fetch(1, 0, 0, false));
        badState(40, () -> x.push(1, 0));
        same(39, x.ref(0, 0), NONE);
        content(x, 0, 30, 30, 30);
        folder(x, 0, 0, x.part(x.part(v, 0), 1));
        x.version(0, x.part(v, 0), 30, NONE, NONE);
        moveTo(x, 0, 1, v);
        same(39, x.fetch(1, 0, 0, false), 0);
        same(39, x.ref(0, 0), v);
    }

    private static void sweeps() {
        PackSpring x = new PackSpring();
        int a = version(x, 0, 1, NONE, NONE);
        int b = version(x, 0, 2, NONE, NONE);
        int c = version(x, 0, 3, NONE, NONE);
        int p = content(x, 0, 9);
        is(36, x.pin(0, p), true);
        is(36, x.pin(0, a), true);
        is(36, x.pin(0, a), false);
        outOfBounds(36, () -> x.pin(2, a), () -> x.pin(0, NONE));
        outOfBounds(37, () -> x.sweep(2));
        moveTo(x, 0, 0, a);
        moveTo(x, 0, 0, NONE);
        x.replace(0, b, c);
        x.tick(9);
        int q = content(x, 0, 8);
        same(37, x.sweep(0), 0);
        x.tick(10);
        same(37, x.sweep(0), 1);
        same(37, x.where(0, q), 0);
        same(37, x.where(0, a), 1);
        x.tick(1);
        same(37, x.sweep(0), 3);
        same(37, x.where(0, a), 0);
        same(37, x.where(0, b) + x.where(0, c) + x.where(0, p), 3);
        x.replace(0, b, NONE);
        x.pack(0, 0, 0);
        x.pin(0, c);
        same(37, x.sweep(0), 7);
        same(37, x.where(0, b), 2);
        x.pin(0, c);
        x.pin(0, p);
        same(37, x.sweep(0), 1);
        same(37, x.packs(0), 0);
        same(37, x.where(0, b) + x.where(0, p), 0);
    }

    // ---- promises 38 to 40

    private static void sending() {
        PackSpring x = new PackSpring();
        is(38, x.line(), false);
        is(38, x.line(), true);
        int a = version(x, 0, 1, NONE, NONE);
        int b = version(x, 0, 2, a, NONE);
        int c = version(x, 0, 3, b, NONE);
        int t = x.tag(0, c);
        outOfBounds(39, () -> x.fetch(2, 0, 0, false), () -> x.fetch(0, 6, 21, false), () -> x.fetch(0, -1, 0, false));
        badArgument(39, () -> x.fetch(0, 0, 21, false), () -> x.fetch(0, 0, -1, false));
        badState(39, () -> x.fetch(0, 0, 0, false));
        outOfBounds(40, () -> x.push(2, 0), () -> x.push(0, 6));
        badState(40, () -> x.push(0, 0));
        moveTo(x, 0, 0, t);
        x.line();
        badState(39, () -> x.fetch(0, 0, 0, false));
        badState(40, () -> x.push(0, 0));
        x.line();
        same(39, x.fetch(0, 0, 2, false), 7);
        same(39, x.ref(1, 0), t);
        same(39, x.logs(1), 1);
        same(39, x.unsynced(1), 2);
        same(39, x.where(1, t) + x.where(1, b), 4);
        same(39, x.where(1, a), 0);
        is(39, x.isShallow(1, b), true);
        is(39, x.isWhole(1, t), true);
        same(39, x.fetch(0, 0, 0, false), 3);
        is(39, x.isShallow(1, b), false);
        same(39, x.logs(1), 1);
        same(39, x.fetch(0, 0, 20, true), 0);
        same(39, x.unsynced(1), 5);
        moveTo(x, 1, 1, b);
        same(39, x.fetch(1, 1, 1, false), 0);
        same(39, x.ref(0, 1), b);
        is(39, x.isShallow(0, b), false);
        halves();
        offeredBases();
        pushes();
    }

    private static void halves() {
        PackSpring x = new PackSpring();
        int v = version(x, 0, 1, NONE, NONE);
        int c = x.part(x.part(v, 0), 1);
        moveTo(x, 0, 0, v);
        same(39, x.fetch(0, 0, 0, true), 2);
        same(39, x.where(1, c), PackSpring.PROMISED);
        moveTo(x, 1, 3, v);
        same(39, folder(x, 1, 7, c) >= 0 ? 1 : 0, 1);
        same(39, x.fetch(1, 3, 0, false), 0);
        PackSpring y = new PackSpring();
        int w = version(y, 0, 1, NONE, NONE);
        moveTo(y, 0, 0, w);
        content(y, 1, 1, 1, 1);
        same(39, y.fetch(0, 0, 0, true), 2);
        same(39, y.where(1, c), PackSpring.LOOSE);
        y.spoil(0, c);
        badState(39, () -> y.fetch(0, 0, 0, false) + y.fetch(0, 0, 0, false) + spoilAndFetchAll(y, w));
    }

    /** Sends what has no good copy any more: first the wanted things stay, then they must be sent anew. */
    private static int spoilAndFetchAll(PackSpring y, int w) {
        y.expect(1, 0, w, NONE);
        y.commit(1);
        return y.fetch(0, 0, 0, false);
    }

    private static void offeredBases() {
        PackSpring x = new PackSpring();
        int old = content(x, 0, 1, 2, 3, 4, 5, 6, 7, 8);
        int near = content(x, 0, 1, 2, 3, 4, 5, 6, 7, 9);
        int v = x.version(0, folder(x, 0, 0, old), 1, NONE, NONE);
        moveTo(x, 0, 0, v);
        same(39, x.fetch(0, 0, 0, false), 3);
        int w = x.version(0, folder(x, 0, 0, near), 2, NONE, NONE);
        moveTo(x, 0, 1, w);
        same(39, x.fetch(0, 1, 0, false), 3);
        same(39, x.entries(1, 1), 4);
        same(39, x.base(1, 1, 0), NONE);
        same(39, x.base(1, 1, 1), old);
        same(39, x.size(1, 1), 8 + 3 + 2 + 2);
        same(39, x.read(1, near, 7), 9);
        same(39, x.crash(1, 15), 0);
        same(39, x.spoil(1, old), 1);
        badState(39, () -> x.read(1, near, 7));
        same(39, x.read(1, old, 7), 8);
    }

    private static void pushes() {
        PackSpring x = new PackSpring();
        int a = version(x, 0, 1, NONE, NONE);
        int b = version(x, 0, 2, a, NONE);
        int other = version(x, 0, 3, NONE, NONE);
        moveTo(x, 0, 0, a);
        same(40, x.push(0, 0), 3);
        moveTo(x, 0, 0, b);
        same(40, x.push(0, 0), 3);
        same(40, x.ref(1, 0), b);
        moveTo(x, 0, 0, other);
        int deeds = x.unsynced(1);
        badState(40, () -> x.push(0, 0));
        same(40, x.unsynced(1), deeds);
        same(40, x.ref(1, 0), b);
        same(40, x.where(1, other), 0);
        moveTo(x, 0, 0, x.tag(0, b));
        same(40, x.push(0, 0), 1);
        moveTo(x, 0, 0, b);
        same(40, x.push(0, 0), 0);
        same(40, x.ref(1, 0), b);
        x.spoil(0, a);
        moveTo(x, 1, 0, NONE);
        badState(40, () -> x.push(0, 0));
    }

    // ---- promises 41 to 44

    private static void spoiling() {
        PackSpring x = new PackSpring();
        int v = version(x, 0, 1, NONE, NONE);
        int f = x.part(v, 0);
        int c = x.part(f, 1);
        moveTo(x, 0, 0, v);
        same(39, x.fetch(0, 0, 0, false), 3);
        outOfBounds(41, () -> x.spoil(2, v), () -> x.spoil(0, NONE));
        same(42, x.missing(0), 0);
        same(41, x.spoil(0, v), NONE);
        badState(41, () -> x.spoil(0, v));
        same(41, x.spoil(0, c), NONE);
        same(42, x.missing(0), 2);
        same(42, x.missing(1), 0);
        same(43, x.missingAt(0, 0), Math.min(v, c));
        same(43, x.missingAt(0, 1), Math.max(v, c));
        outOfBounds(43, () -> x.missingAt(0, 2), () -> x.missingAt(0, -1), () -> x.missingAt(2, 0));
        outOfBounds(42, () -> x.missing(2));
        outOfBounds(44, () -> x.mend(2));
        x.line();
        badState(44, () -> x.mend(0));
        x.line();
        same(41, x.spoil(1, c), 0);
        int deeds = x.unsynced(0);
        same(44, x.mend(0), 1);
        same(44, x.unsynced(0), deeds + 1);
        same(43, x.missingAt(0, 0), c);
        same(44, x.read(0, v, 1), 1);
        same(44, x.mend(0), 0);
        moveTo(x, 0, 0, NONE);
        same(42, x.missing(0), 0);
        PackSpring y = new PackSpring();
        int w = version(y, 0, 1, NONE, NONE);
        moveTo(y, 0, 0, w);
        y.fetch(0, 0, 0, true);
        same(42, y.missing(1), 0);
        y.read(1, c, 0);
        y.spoil(1, c);
        same(42, y.missing(1), 1);
        same(44, y.mend(1), 1);
        same(42, y.missing(1), 0);
    }

    // ---- what seldom meets

    private static void diskEdges() {
        PackSpring x = new PackSpring();
        int a = content(x, 0, 1);
        x.sync(0);
        int b = content(x, 0, 2);
        same(16, x.pack(0, 8, 8), 0);
        same(16, x.crash(0, 2), 1);
        same(16, x.where(0, a) * 10 + x.where(0, b), 32);
        x.expect(0, 0, NONE, NONE);
        x.crash(0, 0);
        same(16, x.expect(0, 0, NONE, NONE), 1);
        keptBelow();
        PackSpring y = new PackSpring();
        int c = content(y, 0, 1);
        int d = content(y, 0, 2);
        y.spoil(0, c);
        same(31, y.pack(0, 0, 0), 0);
        same(33, y.entries(0, 0), 1);
        same(13, y.where(0, c) * 10 + y.where(0, d), 13);
        y.sync(0);
        for (int k = 1; k < 20; k++) {
            content(y, 0, 50, k);
            same(31, y.pack(0, 0, 0), k);
            y.crash(0, 1);
        }
        same(32, y.packs(0), 1);
        content(y, 0, 51);
        badState(31, () -> y.pack(0, 0, 0));
    }

    /** A copy that is kept below an UNLINK and a new WRITE is not spoiled with the new one. */
    private static void keptBelow() {
        PackSpring x = new PackSpring();
        int a = content(x, 0, 1);
        x.sync(0);
        x.tick(10);
        same(37, x.sweep(0), 1);
        same(16, content(x, 0, 1), a);
        same(16, x.unsynced(0), 2);
        same(41, x.spoil(0, a), NONE);
        badState(12, () -> x.read(0, a, 0));
        same(16, x.crash(0, 0), 2);
        same(12, x.read(0, a, 0), 1);
    }

    private static void walkEdges() {
        PackSpring x = new PackSpring();
        int a = version(x, 0, 1, NONE, NONE);
        int b = version(x, 0, 2, a, NONE);
        int c = version(x, 0, 3, a, NONE);
        int late = version(x, 0, 9, a, NONE);
        int top = version(x, 0, 5, b, c);
        same(25, x.walk(0, top, a), 3);
        same(26, x.walkAt(1), c);
        same(24, x.replace(0, b, late), NONE);
        same(25, x.walk(0, top, a), 3);
        same(26, x.walkAt(1), b);
        int early = x.version(0, x.part(a, 0), 0, a, NONE);
        same(24, x.replace(0, b, NONE), late);
        same(24, x.replace(0, c, early), NONE);
        same(25, x.walk(0, top, a), 3);
        same(26, x.walkAt(1), b);
        same(24, x.replace(0, c, NONE), early);
        same(24, x.replace(0, b, late), NONE);
        int deeds = x.unsynced(0);
        same(24, x.replace(0, b, late), late);
        same(24, x.replace(0, c, NONE), NONE);
        same(24, x.unsynced(0), deeds + 2);
        same(24, x.crash(0, -1 >>> 2), 0);
        same(24, x.replace(0, b, NONE), late);
        same(24, x.crash(0, 0), 1);
        same(24, x.replace(0, b, NONE), late);
        moveTo(x, 0, 0, b);
        same(39, x.fetch(0, 0, 1, false), 3);
        int lone = version(x, 1, 7, NONE, NONE);
        badState(24, () -> x.replace(1, a, b));
        same(24, x.replace(1, lone, b), NONE);
        same(25, x.walk(1, lone, NONE), 1);
        same(25, x.walk(1, b, NONE), 1);
        same(25, x.walk(1, c, NONE), 2);
        same(29, x.reach(1, lone), 3);
        notWhole();
    }

    private static void notWhole() {
        PackSpring x = new PackSpring();
        int a = version(x, 0, 1, NONE, NONE);
        x.sync(0);
        int b = version(x, 0, 2, NONE, NONE);
        same(16, x.crash(0, 4), 2);
        same(13, x.where(0, b), 1);
        is(22, x.isWhole(0, b), false);
        badState(24, () -> x.replace(0, a, b));
        badState(27, () -> x.choose(0, b));
        x.expect(0, 0, NONE, b);
        badState(19, () -> x.commit(0));
        badArgument(19, () -> x.expect(0, 0, NONE, a));
        same(24, x.replace(0, b, a), NONE);
    }

    private static void sweepEdges() {
        PackSpring x = new PackSpring();
        int c = content(x, 0, 1);
        x.sync(0);
        x.tick(15);
        folder(x, 0, 0, c);
        same(16, x.crash(0, 0), 1);
        same(37, x.sweep(0), 1);
        PackSpring y = new PackSpring();
        int v = version(y, 0, 1, NONE, NONE);
        moveTo(y, 0, 0, v);
        y.tick(15);
        moveTo(y, 0, 0, NONE);
        y.tick(19);
        same(37, y.sweep(0), 0);
        y.tick(1);
        same(37, y.sweep(0), 3);
        PackSpring z = new PackSpring();
        int w = version(z, 0, 1, NONE, NONE);
        z.pack(0, 0, 0);
        z.spoil(0, w);
        z.spoil(0, w);
        z.version(0, z.part(w, 0), 1, NONE, NONE);
        same(37, z.sweep(0), 2);
        same(37, z.where(0, w), 3);
        same(12, z.read(0, w, 1), 1);
    }

    private static void sendEdges() {
        PackSpring x = new PackSpring();
        int a = version(x, 0, 1, NONE, NONE);
        int b = version(x, 0, 2, a, NONE);
        int top = version(x, 0, 3, b, a);
        moveTo(x, 0, 0, top);
        same(39, x.fetch(0, 0, 1, false), 3);
        is(39, x.isShallow(1, top), true);
        int more = version(x, 1, 4, top, NONE);
        moveTo(x, 0, 0, NONE);
        moveTo(x, 1, 0, more);
        same(39, x.fetch(1, 0, 0, false), 6);
        is(39, x.isShallow(0, top), true);
        is(39, x.isShallow(0, more), false);
        PackSpring y = new PackSpring();
        int c = version(y, 0, 1, NONE, NONE);
        int d = version(y, 0, 2, c, NONE);
        moveTo(y, 0, 0, version(y, 0, 3, c, d));
        same(39, y.fetch(0, 0, 2, false), 9);
        promisedOnward();
        spoiltBase();
    }

    /** A promised CONTENT that is not there is not sent on; once it was read, it is. */
    private static void promisedOnward() {
        PackSpring x = new PackSpring();
        int v = version(x, 0, 1, NONE, NONE);
        int c = x.part(x.part(v, 0), 1);
        moveTo(x, 0, 0, v);
        same(39, x.fetch(0, 0, 0, true), 2);
        moveTo(x, 0, 0, NONE);
        same(39, x.fetch(1, 0, 0, false), 3 - 1);
        same(39, x.where(0, c), PackSpring.LOOSE);
        moveTo(x, 0, 0, NONE);
        x.tick(20);
        same(39, x.sweep(0), 4);
        same(39, x.where(0, c), 0);
        same(39, x.fetch(1, 0, 0, false), 2);
        same(39, x.where(0, c), PackSpring.PROMISED);
        badState(12, () -> x.read(0, c, 0));
        content(x, 1, 1, 1, 1);
        moveTo(x, 0, 0, NONE);
        same(39, x.fetch(1, 0, 0, false), 3);
        same(39, x.where(0, c), PackSpring.PACKED + PackSpring.PROMISED);
    }

    /** What the other one has is no base if it has no good copy. */
    private static void spoiltBase() {
        PackSpring x = new PackSpring();
        int old = content(x, 0, 1, 2, 3, 4, 5, 6, 7, 8);
        int near = content(x, 0, 1, 2, 3, 4, 5, 6, 7, 9);
        int v = x.version(0, folder(x, 0, 0, old), 1, NONE, NONE);
        moveTo(x, 0, 0, v);
        same(39, x.fetch(0, 0, 0, false), 3);
        same(41, x.spoil(1, old), 0);
        moveTo(x, 0, 1, x.version(0, folder(x, 0, 0, near), 2, NONE, NONE));
        same(39, x.fetch(0, 1, 0, false), 3);
        same(39, x.entries(1, 1), 3);
        same(39, x.base(1, 1, 0), NONE);
    }
}
