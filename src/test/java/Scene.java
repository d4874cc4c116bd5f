import java.util.ArrayList;
import java.util.List;

/** A PackSpring that counts its calls, as 512 are all that is promised, and what tests often do with one. */
final class Scene {
    static final int NONE = PackSpring.NONE;
    private static final int MOST_CALLS = 512;

    private final PackSpring x = new PackSpring();
    private final List<Integer> names = new ArrayList<>();
    private int calls;

    // what rich() tells
    int c;
    int d;
    int f;
    int g;
    int v;
    int w;
    int u;
    int t;

    private PackSpring used() {
        calls++;
        if (calls > MOST_CALLS) {
            throw new AssertionError("the test makes more than 512 calls on one object");
        }
        return x;
    }

    private int heard(int name) {
        if (!names.contains(name)) {
            names.add(name);
        }
        return name;
    }

    // ---- the face, counted

    int put(int number) {
        return used().put(number);
    }

    int clear() {
        return used().clear();
    }

    int content(int store) {
        return heard(used().content(store));
    }

    int folder(int store) {
        return heard(used().folder(store));
    }

    int version(int store, int folder, int date, int one, int other) {
        return heard(used().version(store, folder, date, one, other));
    }

    int tag(int store, int version) {
        return heard(used().tag(store, version));
    }

    int told() {
        return used().told();
    }

    int kind(int name) {
        return used().kind(name);
    }

    int length(int name) {
        return used().length(name);
    }

    int part(int name, int place) {
        return used().part(name, place);
    }

    int read(int store, int name, int place) {
        return used().read(store, name, place);
    }

    int where(int store, int name) {
        return used().where(store, name);
    }

    int sync(int store) {
        return used().sync(store);
    }

    int unsynced(int store) {
        return used().unsynced(store);
    }

    int crash(int store, int deeds) {
        return used().crash(store, deeds);
    }

    int tick(int ticks) {
        return used().tick(ticks);
    }

    int expect(int store, int ref, int old, int now) {
        return used().expect(store, ref, old, now);
    }

    boolean commit(int store) {
        return used().commit(store);
    }

    int ref(int store, int ref) {
        return used().ref(store, ref);
    }

    int logs(int store) {
        return used().logs(store);
    }

    boolean isWhole(int store, int name) {
        return used().isWhole(store, name);
    }

    boolean isShallow(int store, int name) {
        return used().isShallow(store, name);
    }

    int replace(int store, int name, int by) {
        return used().replace(store, name, by);
    }

    int walk(int store, int want, int hide) {
        return used().walk(store, want, hide);
    }

    int walkAt(int place) {
        return used().walkAt(place);
    }

    int choose(int store, int name) {
        return used().choose(store, name);
    }

    int chosen(int store) {
        return used().chosen(store);
    }

    int reach(int store, int name) {
        return used().reach(store, name);
    }

    int reachByRounds(int store, int name) {
        return used().reachByRounds(store, name);
    }

    int pack(int store, int window, int depth) {
        return used().pack(store, window, depth);
    }

    int packs(int store) {
        return used().packs(store);
    }

    int entries(int store, int pack) {
        return used().entries(store, pack);
    }

    int size(int store, int pack) {
        return used().size(store, pack);
    }

    int base(int store, int pack, int place) {
        return used().base(store, pack, place);
    }

    boolean pin(int store, int name) {
        return used().pin(store, name);
    }

    int sweep(int store) {
        return used().sweep(store);
    }

    boolean line() {
        return used().line();
    }

    int fetch(int from, int ref, int limit, boolean isHalf) {
        return used().fetch(from, ref, limit, isHalf);
    }

    int push(int from, int ref) {
        return used().push(from, ref);
    }

    int spoil(int store, int name) {
        return used().spoil(store, name);
    }

    int missing(int store) {
        return used().missing(store);
    }

    int missingAt(int store, int place) {
        return used().missingAt(store, place);
    }

    int mend(int store) {
        return used().mend(store);
    }

    // ---- what tests often do

    int calls() {
        return calls;
    }

    /** The names that were told here, in their order. */
    List<Integer> names() {
        return names;
    }

    int nth(int k) {
        return names.get(k);
    }

    Scene draft(int... numbers) {
        for (int number : numbers) {
            put(number);
        }
        return this;
    }

    int tellContent(int store, int... numbers) {
        return draft(numbers).content(store);
    }

    int tellFolder(int store, int... entries) {
        return draft(entries).folder(store);
    }

    /** A VERSION with a folder and a content of its own. */
    int after(int store, int number, int one, int other) {
        int folder = tellFolder(store, 0, tellContent(store, number, number, number));
        return version(store, folder, number, one, other);
    }

    int root(int store, int number) {
        return after(store, number, NONE, NONE);
    }

    /** VERSIONs with one folder, each the parent of the next one; dates from 1. */
    int[] chain(int store, int folder, int count) {
        int[] chain = new int[count];
        for (int k = 0; k < count; k++) {
            chain[k] = version(store, folder, k + 1, k == 0 ? NONE : chain[k - 1], NONE);
        }
        return chain;
    }

    void move(int store, int ref, int now) {
        expect(store, ref, ref(store, ref), now);
        if (!commit(store)) {
            throw new AssertionError("the reference did not move");
        }
    }

    // ---- scenes

    /** Something of everything, so that a call that changes anything can be caught at it. */
    static Scene rich() {
        Scene s = new Scene();
        s.c = s.tellContent(0, 1, 2, 3);
        s.d = s.tellContent(0, 1, 2, 4, 3);
        s.f = s.tellFolder(0, 0, s.c);
        s.g = s.tellFolder(0, 0, s.c, 3, s.d);
        s.v = s.version(0, s.f, 5, NONE, NONE);
        s.w = s.version(0, s.g, 6, s.v, NONE);
        s.u = s.version(0, s.f, 7, NONE, NONE);
        s.t = s.tag(0, s.w);
        s.move(0, 0, s.t);
        s.fetch(0, 0, 1, true);
        s.tick(3);
        s.read(1, s.c, 0);
        s.pack(0, 4, 4);
        s.replace(0, s.u, s.v);
        s.pin(0, s.d);
        s.pin(1, s.w);
        s.choose(0, s.v);
        s.choose(1, s.w);
        s.expect(0, 1, NONE, s.v);
        s.expect(1, 2, NONE, s.w);
        s.walk(0, s.w, NONE);
        s.put(8);
        s.put(9);
        return s;
    }

    /** A CONTENT, its FOLDER and its VERSION in store 0, fetched by half: the CONTENT is promised in store 1. */
    static Scene half() {
        Scene s = new Scene();
        s.c = s.tellContent(0, 1, 2, 3);
        s.f = s.tellFolder(0, 0, s.c);
        s.v = s.version(0, s.f, 5, NONE, NONE);
        s.move(0, 0, s.v);
        s.fetch(0, 0, 0, true);
        return s;
    }

    /** Told objects: first CONTENTs of one number, then a FOLDER, two VERSIONs and the TAG of the first. */
    static Scene crowd(int told) {
        Scene s = new Scene();
        for (int k = 0; k < told - 4; k++) {
            s.tellContent(0, k);
        }
        s.c = s.nth(0);
        s.f = s.tellFolder(0, 0, s.c);
        s.v = s.version(0, s.f, 1, NONE, NONE);
        s.w = s.version(0, s.f, 2, s.v, NONE);
        s.t = s.tag(0, s.v);
        return s;
    }

    /** As many deeds in a store as are told, not synced. */
    static Scene busy(int store, int deeds) {
        Scene s = new Scene();
        for (int k = 0; k < deeds; k++) {
            s.tellContent(store, k);
        }
        return s;
    }
}
