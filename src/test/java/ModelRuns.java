import java.util.ArrayList;
import java.util.Arrays;
import java.util.Collections;
import java.util.HashMap;
import java.util.LinkedHashMap;
import java.util.List;
import java.util.Map;
import java.util.Random;
import java.util.Set;
import java.util.TreeMap;
import java.util.TreeSet;

/**
 * Plays long runs of calls, made from fixed seeds, against a slow model of the document that folds
 * the deeds anew for each question, and compares every answer and every exception.
 */
public final class ModelRuns {
    private static final String[] CALLS = {
        "put", "clear", "content", "folder", "version", "tag", "told", "kind", "length", "part", "read", "where",
        "sync", "unsynced", "crash", "tick", "expect", "commit", "ref", "logs", "isWhole", "isShallow", "replace",
        "walk", "walkAt", "choose", "chosen", "reach", "reachByRounds", "pack", "packs", "entries", "size", "base",
        "pin", "sweep", "line", "fetch", "push", "spoil", "missing", "missingAt", "mend"};

    public static void main(String[] args) {
        int runs = args.length > 0 ? Integer.parseInt(args[0]) : 1500;
        int seed0 = args.length > 1 ? Integer.parseInt(args[1]) : 0;
        int passed = 0;
        int failed = 0;
        Map<String, Integer> answers = new TreeMap<>();
        for (int seed = seed0; seed < seed0 + runs && failed < 5; seed++) {
            boolean isRight = new Player(seed, answers).play();
            passed += isRight ? 1 : 0;
            failed += isRight ? 0 : 1;
        }
        if (args.length > 2) {
            System.out.println(answers);
        }
        failed += lacking(answers);
        System.out.println(passed + " passed, " + failed + " failed");
        if (failed != 0) {
            System.exit(1);
        }
    }

    /** The runs are worth nothing if they never come to some answer: each call must have answered and thrown. */
    private static int lacking(Map<String, Integer> answers) {
        int lacking = 0;
        String[] throwing = {
            "put IllegalArgumentException", "put IllegalStateException", "content IllegalArgumentException",
            "content IllegalStateException", "folder IllegalArgumentException", "folder IllegalStateException",
            "version IndexOutOfBoundsException", "version IllegalArgumentException", "version IllegalStateException",
            "tag IllegalArgumentException", "tag IllegalStateException", "read IllegalStateException",
            "expect IllegalArgumentException", "commit IllegalStateException", "replace IllegalArgumentException",
            "replace IllegalStateException", "walk IllegalArgumentException", "choose IllegalStateException",
            "pack IllegalStateException", "fetch IllegalStateException", "push IllegalStateException",
            "spoil IllegalStateException", "mend IllegalStateException", "missingAt IndexOutOfBoundsException"};
        List<String> due = new ArrayList<>(Arrays.asList(throwing));
        for (String call : CALLS) {
            due.add(call + " ok");
        }
        for (String kind : due) {
            if (!answers.containsKey(kind)) {
                System.out.println("never seen: " + kind);
                lacking++;
            }
        }
        return lacking;
    }

    // ---- the model

    private static final class Obj {
        final int kind;
        final List<Integer> body;

        Obj(int kind, List<Integer> body) {
            this.kind = kind;
            this.body = body;
        }

        List<Integer> parents() {
            return kind == 2 ? body.subList(2, body.size()) : List.of();
        }
    }

    private static final class Copy {
        boolean bad;
    }

    private static final class Entry {
        final int name;
        final Entry base;
        final int size;
        boolean bad;

        Entry(int name, Entry base, int size) {
            this.name = name;
            this.base = base;
            this.size = size;
        }

        boolean good() {
            return !bad && (base == null || base.good());
        }

        int depth() {
            return base == null ? 0 : 1 + base.depth();
        }
    }

    private static final class State {
        Map<Integer, Copy> loose = new TreeMap<>();
        TreeMap<Integer, List<Entry>> packs = new TreeMap<>();
        Integer[] refs = new Integer[6];
        List<int[]> log = new ArrayList<>();
        Set<Integer> shallow = new TreeSet<>();
        Set<Integer> promised = new TreeSet<>();
        Map<Integer, Integer> replaced = new HashMap<>();

        State copy() {
            State s = new State();
            s.loose.putAll(loose);
            s.packs.putAll(packs);
            s.refs = refs.clone();
            s.log.addAll(log);
            s.shallow.addAll(shallow);
            s.promised.addAll(promised);
            s.replaced.putAll(replaced);
            return s;
        }

        boolean there(int name) {
            if (loose.containsKey(name)) {
                return true;
            }
            for (List<Entry> pack : packs.values()) {
                for (Entry e : pack) {
                    if (e.name == name) {
                        return true;
                    }
                }
            }
            return false;
        }

        boolean goodEntry(int name) {
            for (List<Entry> pack : packs.values()) {
                for (Entry e : pack) {
                    if (e.name == name && e.good()) {
                        return true;
                    }
                }
            }
            return false;
        }

        boolean good(int name) {
            return (loose.containsKey(name) && !loose.get(name).bad) || goodEntry(name);
        }
    }

    private interface Deed {
        void on(State s);
    }

    private static final class Kept {
        final Deed deed;
        final boolean free;

        Kept(Deed deed, boolean free) {
            this.deed = deed;
            this.free = free;
        }
    }

    private static final class Depot {
        State synced = new State();
        List<Kept> deeds = new ArrayList<>();
        Map<Integer, Integer> written = new HashMap<>();
        Set<Integer> pins = new TreeSet<>();
        TreeMap<Integer, Integer[]> transaction = new TreeMap<>();
        List<Integer> chosen = new ArrayList<>();
        int made;

        State seen() {
            State s = synced.copy();
            for (Kept k : deeds) {
                k.deed.on(s);
            }
            return s;
        }

        void act(boolean free, Deed deed) {
            if (deeds.size() == 30) {
                synced = seen();
                deeds.clear();
            }
            deeds.add(new Kept(deed, free));
        }

        void write(int name, int tick) {
            if (!seen().good(name)) {
                Copy copy = new Copy();
                act(true, s -> s.loose.put(name, copy));
            }
            written.put(name, tick);
        }
    }

    private static final class Model {
        final LinkedHashMap<Integer, Obj> objs = new LinkedHashMap<>();
        final List<Integer> draft = new ArrayList<>();
        final Depot[] depots = {new Depot(), new Depot()};
        List<Integer> walked = List.of();
        int tick;
        boolean up = true;

        static void out(boolean is) {
            if (is) {
                throw new IndexOutOfBoundsException();
            }
        }

        static void arg(boolean is) {
            if (is) {
                throw new IllegalArgumentException();
            }
        }

        static void state(boolean is) {
            if (is) {
                throw new IllegalStateException();
            }
        }

        void store(int store) {
            out(store < 0 || store > 1);
        }

        void known(int name) {
            out(!objs.containsKey(name));
        }

        void knownOrNone(int name) {
            out(name != -1 && !objs.containsKey(name));
        }

        int kind(int name) {
            return objs.containsKey(name) ? objs.get(name).kind : -1;
        }

        static Integer boxed(int name) {
            return name == -1 ? null : Integer.valueOf(name);
        }

        static int unboxed(Integer name) {
            return name == null ? -1 : name;
        }

        int tell(Depot d, int kind, List<Integer> body) {
            int sum = 31 * kind;
            for (int k = 0; k < body.size(); k++) {
                sum += (k + 1) * body.get(k);
            }
            sum %= 89;
            int same = 0;
            for (Map.Entry<Integer, Obj> e : objs.entrySet()) {
                if (e.getValue().kind == kind && e.getValue().body.equals(body)) {
                    d.write(e.getKey(), tick);
                    return e.getKey();
                }
                same += e.getKey() / 100 == sum ? 1 : 0;
            }
            state(objs.size() >= 100);
            objs.put(100 * sum + same, new Obj(kind, List.copyOf(body)));
            d.write(100 * sum + same, tick);
            return 100 * sum + same;
        }

        int content(int store) {
            store(store);
            for (int number : draft) {
                arg(number > 99);
            }
            int name = tell(depots[store], 0, draft);
            draft.clear();
            return name;
        }

        int folder(int store) {
            store(store);
            arg(draft.size() % 2 == 1);
            for (int k = 0; k < draft.size(); k += 2) {
                arg(draft.get(k) > 9 || (k > 0 && draft.get(k - 2) >= draft.get(k)));
                arg(kind(draft.get(k + 1)) != 0 && kind(draft.get(k + 1)) != 1);
            }
            State s = depots[store].seen();
            for (int k = 1; k < draft.size(); k += 2) {
                state(!s.there(draft.get(k)) && !s.promised.contains(draft.get(k)));
            }
            int name = tell(depots[store], 1, draft);
            draft.clear();
            return name;
        }

        int version(int store, int folder, int date, int one, int other) {
            store(store);
            known(folder);
            knownOrNone(one);
            knownOrNone(other);
            arg(kind(folder) != 1 || date < 0 || date > 9999);
            arg(one != -1 && kind(one) != 2);
            arg(other != -1 && (kind(other) != 2 || one == -1 || one == other));
            State s = depots[store].seen();
            state(!s.there(folder) || (one != -1 && !s.there(one)) || (other != -1 && !s.there(other)));
            List<Integer> body = new ArrayList<>(List.of(folder, date));
            if (one != -1) {
                body.add(one);
            }
            if (other != -1) {
                body.add(other);
            }
            return tell(depots[store], 2, body);
        }

        int tag(int store, int version) {
            store(store);
            known(version);
            arg(kind(version) != 2);
            state(!depots[store].seen().there(version));
            return tell(depots[store], 3, List.of(version));
        }

        int part(int name, int place) {
            known(name);
            out(place < 0 || place >= objs.get(name).body.size());
            return objs.get(name).body.get(place);
        }

        int read(int store, int name, int place) {
            store(store);
            int answer = part(name, place);
            State s = depots[store].seen();
            if (!s.good(name)) {
                state(s.there(name) || !s.promised.contains(name) || !up || !depots[1 - store].seen().good(name));
                depots[store].write(name, tick);
            }
            return answer;
        }

        int where(int store, int name) {
            store(store);
            known(name);
            State s = depots[store].seen();
            boolean packed = false;
            for (List<Entry> pack : s.packs.values()) {
                for (Entry e : pack) {
                    packed |= e.name == name;
                }
            }
            return (s.loose.containsKey(name) ? 1 : 0) + (packed ? 2 : 0) + (s.promised.contains(name) ? 4 : 0);
        }

        int sync(int store) {
            store(store);
            Depot d = depots[store];
            int n = d.deeds.size();
            d.synced = d.seen();
            d.deeds.clear();
            return n;
        }

        int crash(int store, int set) {
            store(store);
            arg(set < 0 || set > 1073741823);
            Depot d = depots[store];
            int lost = 0;
            for (int k = 0; k < d.deeds.size(); k++) {
                Kept kept = d.deeds.get(k);
                if ((set & (1 << k)) != 0 && (kept.free || lost == 0)) {
                    kept.deed.on(d.synced);
                } else {
                    lost++;
                }
            }
            d.deeds.clear();
            d.pins.clear();
            d.transaction.clear();
            d.chosen.clear();
            return lost;
        }

        int expect(int store, int ref, int old, int now) {
            store(store);
            out(ref < 0 || ref > 5);
            knownOrNone(old);
            knownOrNone(now);
            arg(now != -1 && kind(now) != 2 && kind(now) != 3);
            arg(depots[store].transaction.containsKey(ref));
            depots[store].transaction.put(ref, new Integer[] {boxed(old), boxed(now)});
            return depots[store].transaction.size();
        }

        static void moveRef(State s, int ref, Integer now, int tick) {
            if (unboxed(s.refs[ref]) != unboxed(now)) {
                s.log.add(new int[] {ref, unboxed(s.refs[ref]), unboxed(now), tick});
                s.refs[ref] = now;
            }
        }

        int commit(int store) {
            store(store);
            Depot d = depots[store];
            state(d.transaction.isEmpty());
            State s = d.seen();
            boolean met = true;
            for (Map.Entry<Integer, Integer[]> e : d.transaction.entrySet()) {
                met &= unboxed(s.refs[e.getKey()]) == unboxed(e.getValue()[0]);
            }
            if (met) {
                for (Integer[] pair : d.transaction.values()) {
                    state(pair[1] != null && !whole(store, pair[1]));
                }
                TreeMap<Integer, Integer[]> moves = new TreeMap<>(d.transaction);
                int at = tick;
                d.act(false, x -> {
                    for (Map.Entry<Integer, Integer[]> e : moves.entrySet()) {
                        moveRef(x, e.getKey(), e.getValue()[1], at);
                    }
                });
            }
            d.transaction.clear();
            return met ? 1 : 0;
        }

        Set<Integer> reached(State s, int name) {
            Set<Integer> all = new TreeSet<>();
            reachInto(s, name, all);
            return all;
        }

        void reachInto(State s, int name, Set<Integer> all) {
            if (!all.add(name)) {
                return;
            }
            Obj o = objs.get(name);
            if (o.kind == 1) {
                for (int k = 1; k < o.body.size(); k += 2) {
                    reachInto(s, o.body.get(k), all);
                }
            } else if (o.kind >= 2) {
                reachInto(s, o.body.get(0), all);
                if (!s.shallow.contains(name)) {
                    for (int parent : o.parents()) {
                        reachInto(s, parent, all);
                    }
                }
            }
        }

        boolean whole(int store, int name) {
            State s = depots[store].seen();
            for (int x : reached(s, name)) {
                if (!s.there(x) && !s.promised.contains(x)) {
                    return false;
                }
            }
            return true;
        }

        int isWhole(int store, int name) {
            store(store);
            known(name);
            return whole(store, name) ? 1 : 0;
        }

        int replace(int store, int name, int by) {
            store(store);
            known(name);
            knownOrNone(by);
            arg(kind(name) != 2 || (by != -1 && kind(by) != 2) || name == by);
            state(by != -1 && !whole(store, by));
            State s = depots[store].seen();
            Integer old = s.replaced.get(name);
            Deed deed = x -> {
                if (by == -1) {
                    x.replaced.remove(name);
                } else {
                    x.replaced.put(name, by);
                }
            };
            deed.on(s);
            s.shallow.clear();
            for (int v : objs.keySet()) {
                for (int p : kind(v) == 2 ? seenParents(s, v) : List.<Integer>of()) {
                    state(ancestors(s, p).contains(v));
                }
            }
            depots[store].act(false, deed);
            return unboxed(old);
        }

        int seenAs(State s, int v) {
            return s.replaced.getOrDefault(v, v);
        }

        List<Integer> seenParents(State s, int v) {
            int as = seenAs(s, v);
            return s.shallow.contains(as) ? List.of() : objs.get(as).parents();
        }

        Set<Integer> ancestors(State s, int v) {
            Set<Integer> all = new TreeSet<>(Set.of(v));
            List<Integer> open = new ArrayList<>(all);
            while (!open.isEmpty()) {
                for (int p : seenParents(s, open.remove(open.size() - 1))) {
                    if (all.add(p)) {
                        open.add(p);
                    }
                }
            }
            return all;
        }

        int generation(State s, int v, Map<Integer, Integer> memo) {
            Integer had = memo.get(v);
            if (had != null) {
                return had;
            }
            int most = 0;
            for (int p : seenParents(s, v)) {
                most = Math.max(most, generation(s, p, memo));
            }
            memo.put(v, most + 1);
            return most + 1;
        }

        int walk(int store, int want, int hide) {
            store(store);
            known(want);
            knownOrNone(hide);
            arg(kind(want) != 2 || (hide != -1 && kind(hide) != 2));
            State s = depots[store].seen();
            List<Integer> all = new ArrayList<>(ancestors(s, want));
            if (hide != -1) {
                all.removeAll(ancestors(s, hide));
            }
            Map<Integer, Integer> memo = new HashMap<>();
            all.sort((a, b) -> {
                int byGeneration = generation(s, b, memo) - generation(s, a, memo);
                int byDate = objs.get(seenAs(s, b)).body.get(1) - objs.get(seenAs(s, a)).body.get(1);
                return byGeneration != 0 ? byGeneration : byDate != 0 ? byDate : a - b;
            });
            walked = all;
            return all.size();
        }

        int walkAt(int place) {
            out(place < 0 || place >= walked.size());
            return walked.get(place);
        }

        int choose(int store, int name) {
            store(store);
            known(name);
            arg(kind(name) != 2);
            Depot d = depots[store];
            state(!whole(store, name) || d.chosen.contains(name) || d.chosen.size() >= 4);
            d.chosen.add(name);
            return d.chosen.size();
        }

        int reach(int store, int name) {
            store(store);
            known(name);
            return reached(depots[store].seen(), name).size();
        }

        int sizeWith(int name, int base) {
            List<Integer> a = new ArrayList<>(objs.get(name).body);
            List<Integer> b = new ArrayList<>(objs.get(base).body);
            while (!a.isEmpty() && !b.isEmpty() && a.get(0).equals(b.get(0))) {
                a.remove(0);
                b.remove(0);
            }
            while (!a.isEmpty() && !b.isEmpty() && a.get(a.size() - 1).equals(b.get(b.size() - 1))) {
                a.remove(a.size() - 1);
                b.remove(b.size() - 1);
            }
            return 2 + a.size();
        }

        List<Entry> packed(Set<Integer> names, Set<Integer> has, int window, int depth) {
            List<Integer> order = new ArrayList<>(names);
            order.sort((a, b) -> kind(a) != kind(b) ? kind(a) - kind(b)
                    : objs.get(a).body.size() != objs.get(b).body.size()
                    ? objs.get(b).body.size() - objs.get(a).body.size() : a - b);
            List<Entry> entries = new ArrayList<>();
            for (int name : order) {
                List<Object> bases = new ArrayList<>();
                for (int back = 1; back <= window && back <= entries.size(); back++) {
                    Entry e = entries.get(entries.size() - back);
                    if (kind(e.name) == kind(name) && e.depth() < depth) {
                        bases.add(e);
                    }
                }
                for (int other : new TreeSet<>(has)) {
                    if (kind(other) == kind(name)) {
                        bases.add(other);
                    }
                }
                Object best = null;
                int least = Integer.MAX_VALUE;
                for (Object base : bases) {
                    int size = sizeWith(name, base instanceof Entry e ? e.name : (Integer) base);
                    if (size < least) {
                        least = size;
                        best = base;
                    }
                }
                int own = objs.get(name).body.size();
                if (best == null || least >= own) {
                    entries.add(new Entry(name, null, own));
                } else if (best instanceof Entry e) {
                    entries.add(new Entry(name, e, least));
                } else {
                    int other = (Integer) best;
                    Entry base = null;
                    for (Entry e : entries) {
                        base = e.name == other ? e : base;
                    }
                    if (base == null) {
                        base = new Entry(other, null, objs.get(other).body.size());
                        entries.add(base);
                    }
                    entries.add(new Entry(name, base, least));
                }
            }
            return entries;
        }

        int pack(int store, int window, int depth) {
            store(store);
            arg(window < 0 || window > 8 || depth < 0 || depth > 8);
            Depot d = depots[store];
            State s = d.seen();
            Set<Integer> names = new TreeSet<>();
            for (Map.Entry<Integer, Copy> e : s.loose.entrySet()) {
                if (!e.getValue().bad && !s.goodEntry(e.getKey())) {
                    names.add(e.getKey());
                }
            }
            if (names.isEmpty()) {
                return -1;
            }
            state(d.made == 20);
            List<Entry> entries = packed(names, Set.of(), window, depth);
            int number = d.made++;
            d.act(true, x -> x.packs.put(number, entries));
            return number;
        }

        List<Entry> packOf(int store, int pack) {
            store(store);
            List<Entry> entries = depots[store].seen().packs.get(pack);
            out(entries == null);
            return entries;
        }

        int size(int store, int pack) {
            int size = 0;
            for (Entry e : packOf(store, pack)) {
                size += e.size;
            }
            return size;
        }

        int base(int store, int pack, int place) {
            List<Entry> entries = packOf(store, pack);
            out(place < 0 || place >= entries.size());
            Entry base = entries.get(place).base;
            return base == null ? -1 : base.name;
        }

        int pin(int store, int name) {
            store(store);
            known(name);
            Set<Integer> pins = depots[store].pins;
            if (!pins.remove(name)) {
                pins.add(name);
            }
            return pins.contains(name) ? 1 : 0;
        }

        int sweep(int store) {
            store(store);
            Depot d = depots[store];
            State s = d.seen();
            Set<Integer> roots = new TreeSet<>(d.pins);
            for (Integer ref : s.refs) {
                roots.add(unboxed(ref));
            }
            for (int[] entry : s.log) {
                if (tick - entry[3] < 20) {
                    roots.add(entry[1]);
                    roots.add(entry[2]);
                }
            }
            roots.addAll(s.replaced.keySet());
            roots.addAll(s.replaced.values());
            for (Map.Entry<Integer, Integer> e : d.written.entrySet()) {
                if (tick - e.getValue() < 10 && s.there(e.getKey())) {
                    roots.add(e.getKey());
                }
            }
            roots.remove(-1);
            Set<Integer> live = new TreeSet<>();
            for (int root : roots) {
                live.addAll(reached(s, root));
            }
            int n = 0;
            for (int name : s.loose.keySet()) {
                if (!live.contains(name) || s.goodEntry(name)) {
                    n++;
                    d.act(false, x -> x.loose.remove(name));
                }
            }
            for (int number : s.packs.keySet()) {
                boolean dead = true;
                for (Entry e : s.packs.get(number)) {
                    dead &= !live.contains(e.name);
                }
                if (dead) {
                    n++;
                    d.act(false, x -> x.packs.remove(number));
                }
            }
            return n;
        }

        int versionOf(int name) {
            return kind(name) == 3 ? objs.get(name).body.get(0) : name;
        }

        int bring(int from, int ref, int limit, boolean half, boolean push) {
            store(from);
            out(ref < 0 || ref > 5);
            arg(limit < 0 || limit > 20);
            State a = depots[from].seen();
            Depot to = depots[1 - from];
            State b = to.seen();
            state(!up || a.refs[ref] == null);
            int tip = a.refs[ref];
            Set<Integer> versions = new TreeSet<>();
            Set<Integer> layer = new TreeSet<>(Set.of(versionOf(tip)));
            for (int steps = 0; !layer.isEmpty() && (limit == 0 || steps < limit); steps++) {
                Set<Integer> next = new TreeSet<>();
                for (int v : layer) {
                    if (versions.add(v) && !a.shallow.contains(v)) {
                        next.addAll(objs.get(v).parents());
                    }
                }
                layer = next;
            }
            Set<Integer> wanted = new TreeSet<>(versions);
            for (int v : versions) {
                wanted.addAll(reached(a, objs.get(v).body.get(0)));
            }
            wanted.add(tip);
            Set<Integer> has = new TreeSet<>();
            for (Integer r : b.refs) {
                if (r != null) {
                    has.addAll(reached(b, r));
                }
            }
            has.removeIf(x -> !b.there(x));
            Set<Integer> sent = new TreeSet<>(wanted);
            sent.removeAll(has);
            sent.removeIf(x -> kind(x) == 0 && (half || (a.promised.contains(x) && !a.there(x))));
            for (int x : sent) {
                state(!a.good(x));
            }
            state(!sent.isEmpty() && to.made == 20);
            state(push && b.refs[ref] != null && !versions.contains(versionOf(b.refs[ref])));
            if (!sent.isEmpty()) {
                Set<Integer> bases = new TreeSet<>(has);
                bases.removeIf(x -> !b.good(x));
                List<Entry> entries = packed(sent, bases, 4, 4);
                int number = to.made++;
                to.act(true, x -> x.packs.put(number, entries));
            }
            Set<Integer> cut = new TreeSet<>();
            for (int v : versions) {
                for (int p : objs.get(v).parents()) {
                    if (!wanted.contains(p) && !has.contains(p)) {
                        cut.add(v);
                    }
                }
            }
            Set<Integer> promises = new TreeSet<>(wanted);
            promises.removeAll(sent);
            promises.removeIf(x -> kind(x) != 0 || b.there(x));
            Set<Integer> whole = new TreeSet<>(versions);
            whole.removeAll(cut);
            if (!b.shallow.containsAll(cut) || !Collections.disjoint(b.shallow, whole)) {
                to.chosen.clear();
            }
            int at = tick;
            to.act(false, x -> {
                moveRef(x, ref, tip, at);
                x.shallow.addAll(cut);
                x.shallow.removeAll(whole);
                x.promised.addAll(promises);
            });
            return sent.size();
        }

        int spoil(int store, int name) {
            store(store);
            known(name);
            State s = depots[store].seen();
            Copy copy = s.loose.get(name);
            if (copy != null && !copy.bad) {
                copy.bad = true;
                return -1;
            }
            for (int number : s.packs.descendingKeySet()) {
                for (Entry e : s.packs.get(number)) {
                    if (e.name == name && !e.bad) {
                        e.bad = true;
                        return number;
                    }
                }
            }
            throw new IllegalStateException();
        }

        List<Integer> lost(int store) {
            store(store);
            State s = depots[store].seen();
            Set<Integer> all = new TreeSet<>();
            for (Integer r : s.refs) {
                if (r != null) {
                    all.addAll(reached(s, r));
                }
            }
            all.removeIf(x -> s.good(x) || (!s.there(x) && s.promised.contains(x)));
            return new ArrayList<>(all);
        }

        int missingAt(int store, int place) {
            List<Integer> lost = lost(store);
            out(place < 0 || place >= lost.size());
            return lost.get(place);
        }

        int mend(int store) {
            store(store);
            state(!up);
            int n = 0;
            for (int name : lost(store)) {
                if (depots[1 - store].seen().good(name)) {
                    depots[store].write(name, tick);
                    n++;
                }
            }
            return n;
        }

        int call(String call, int[] a) {
            switch (call) {
                case "put":
                    arg(a[0] < 0 || a[0] > 9999);
                    state(draft.size() == 12);
                    draft.add(a[0]);
                    return draft.size();
                case "clear":
                    int had = draft.size();
                    draft.clear();
                    return had;
                case "content": return content(a[0]);
                case "folder": return folder(a[0]);
                case "version": return version(a[0], a[1], a[2], a[3], a[4]);
                case "tag": return tag(a[0], a[1]);
                case "told": return objs.size();
                case "kind": known(a[0]); return kind(a[0]);
                case "length": known(a[0]); return objs.get(a[0]).body.size();
                case "part": return part(a[0], a[1]);
                case "read": return read(a[0], a[1], a[2]);
                case "where": return where(a[0], a[1]);
                case "sync": return sync(a[0]);
                case "unsynced": store(a[0]); return depots[a[0]].deeds.size();
                case "crash": return crash(a[0], a[1]);
                case "tick": arg(a[0] < 1 || a[0] > 100); tick += a[0]; return tick;
                case "expect": return expect(a[0], a[1], a[2], a[3]);
                case "commit": return commit(a[0]);
                case "ref": store(a[0]); out(a[1] < 0 || a[1] > 5); return unboxed(depots[a[0]].seen().refs[a[1]]);
                case "logs": store(a[0]); return depots[a[0]].seen().log.size();
                case "isWhole": return isWhole(a[0], a[1]);
                case "isShallow": store(a[0]); known(a[1]); return depots[a[0]].seen().shallow.contains(a[1]) ? 1 : 0;
                case "replace": return replace(a[0], a[1], a[2]);
                case "walk": return walk(a[0], a[1], a[2]);
                case "walkAt": return walkAt(a[0]);
                case "choose": return choose(a[0], a[1]);
                case "chosen": store(a[0]); return depots[a[0]].chosen.size();
                case "reach": return reach(a[0], a[1]);
                case "reachByRounds": return reach(a[0], a[1]);
                case "pack": return pack(a[0], a[1], a[2]);
                case "packs": store(a[0]); return depots[a[0]].seen().packs.size();
                case "entries": return packOf(a[0], a[1]).size();
                case "size": return size(a[0], a[1]);
                case "base": return base(a[0], a[1], a[2]);
                case "pin": return pin(a[0], a[1]);
                case "sweep": return sweep(a[0]);
                case "line": up = !up; return up ? 1 : 0;
                case "fetch": return bring(a[0], a[1], a[2], a[3] == 1, false);
                case "push": return bring(a[0], a[1], 0, false, true);
                case "spoil": return spoil(a[0], a[1]);
                case "missing": return lost(a[0]).size();
                case "missingAt": return missingAt(a[0], a[1]);
                case "mend": return mend(a[0]);
                default: throw new AssertionError(call);
            }
        }
    }

    private static int real(PackSpring x, String call, int[] a) {
        switch (call) {
            case "put": return x.put(a[0]);
            case "clear": return x.clear();
            case "content": return x.content(a[0]);
            case "folder": return x.folder(a[0]);
            case "version": return x.version(a[0], a[1], a[2], a[3], a[4]);
            case "tag": return x.tag(a[0], a[1]);
            case "told": return x.told();
            case "kind": return x.kind(a[0]);
            case "length": return x.length(a[0]);
            case "part": return x.part(a[0], a[1]);
            case "read": return x.read(a[0], a[1], a[2]);
            case "where": return x.where(a[0], a[1]);
            case "sync": return x.sync(a[0]);
            case "unsynced": return x.unsynced(a[0]);
            case "crash": return x.crash(a[0], a[1]);
            case "tick": return x.tick(a[0]);
            case "expect": return x.expect(a[0], a[1], a[2], a[3]);
            case "commit": return x.commit(a[0]) ? 1 : 0;
            case "ref": return x.ref(a[0], a[1]);
            case "logs": return x.logs(a[0]);
            case "isWhole": return x.isWhole(a[0], a[1]) ? 1 : 0;
            case "isShallow": return x.isShallow(a[0], a[1]) ? 1 : 0;
            case "replace": return x.replace(a[0], a[1], a[2]);
            case "walk": return x.walk(a[0], a[1], a[2]);
            case "walkAt": return x.walkAt(a[0]);
            case "choose": return x.choose(a[0], a[1]);
            case "chosen": return x.chosen(a[0]);
            case "reach": return x.reach(a[0], a[1]);
            case "reachByRounds": return x.reachByRounds(a[0], a[1]);
            case "pack": return x.pack(a[0], a[1], a[2]);
            case "packs": return x.packs(a[0]);
            case "entries": return x.entries(a[0], a[1]);
            case "size": return x.size(a[0], a[1]);
            case "base": return x.base(a[0], a[1], a[2]);
            case "pin": return x.pin(a[0], a[1]) ? 1 : 0;
            case "sweep": return x.sweep(a[0]);
            case "line": return x.line() ? 1 : 0;
            case "fetch": return x.fetch(a[0], a[1], a[2], a[3] == 1);
            case "push": return x.push(a[0], a[1]);
            case "spoil": return x.spoil(a[0], a[1]);
            case "missing": return x.missing(a[0]);
            case "missingAt": return x.missingAt(a[0], a[1]);
            case "mend": return x.mend(a[0]);
            default: throw new AssertionError(call);
        }
    }

    // ---- the runs

    private static final class Player {
        final int seed;
        final Random random;
        final Map<String, Integer> answers;
        final PackSpring real = new PackSpring();
        final Model model = new Model();
        final List<String> history = new ArrayList<>();
        final List<int[]> bodies = new ArrayList<>();
        final int kindOfRun;
        int calls;
        boolean isFine = true;

        Player(int seed, Map<String, Integer> answers) {
            this.seed = seed;
            this.random = new Random(seed);
            this.answers = answers;
            this.kindOfRun = seed % 6;
        }

        boolean play() {
            while (isFine && calls < 500) {
                step();
            }
            if (isFine) {
                probeAll();
            }
            for (int k = 0; k < 300 && isFine; k++) {
                wild();
            }
            return isFine;
        }

        /** What is answered late and to any arguments is free, but that the machine itself throws is not. */
        void wild() {
            List<Integer> names = new ArrayList<>(model.objs.keySet());
            int[] a = new int[5];
            for (int k = 0; k < a.length; k++) {
                int roll = some(12);
                a[k] = roll == 0 ? Integer.MIN_VALUE + some(2) : roll == 1 ? Integer.MAX_VALUE - some(2)
                        : roll < 4 ? random.nextInt() : roll < 7 && !names.isEmpty() ? names.get(some(names.size()))
                        : roll == 7 ? some(20000) - 1000 : some(12) - 2;
                a[k] = k == 0 && some(3) == 0 ? some(2) : a[k];
            }
            String call = CALLS[some(CALLS.length)];
            try {
                real(real, call, a);
            } catch (RuntimeException e) {
                isFine = e.getClass() == IndexOutOfBoundsException.class || e.getClass() == IllegalStateException.class
                        || e.getClass() == IllegalArgumentException.class;
                if (!isFine) {
                    System.out.println("seed " + seed + ": " + call + Arrays.toString(a) + " threw " + e);
                }
            }
        }

        int some(int bound) {
            return random.nextInt(bound);
        }

        int store() {
            return some(60) == 0 ? some(5) - 2 : some(10) < 6 ? 0 : 1;
        }

        /** Mostly a late one of the kind that is there in the store; at times any, or none at all. */
        int name(int kind, int store) {
            if (some(60) == 0) {
                return some(9000) - 2;
            }
            State seen = store < 0 || store > 1 || some(10) == 0 ? null : model.depots[store].seen();
            List<Integer> names = new ArrayList<>();
            for (Map.Entry<Integer, Obj> e : model.objs.entrySet()) {
                boolean isThere = seen == null || seen.there(e.getKey());
                if (isThere && (kind < 0 || e.getValue().kind == kind || some(80) == 0)) {
                    names.add(e.getKey());
                }
            }
            if (names.isEmpty()) {
                return some(9) - 2;
            }
            int back = some(3) == 0 ? some(names.size()) : Math.min(some(6), names.size() - 1);
            return names.get(names.size() - 1 - back);
        }

        int name(int kind) {
            return name(kind, -1);
        }

        int orNone(int name, int odds) {
            return some(odds) == 0 ? -1 : name;
        }

        int ref() {
            return some(50) == 0 ? some(9) - 2 : some(3);
        }

        /** Mostly a reference of the store that is not NONE. */
        int refOf(int store) {
            List<Integer> set = new ArrayList<>();
            for (int ref = 0; ref < 6 && store >= 0 && store < 2; ref++) {
                if (model.depots[store].seen().refs[ref] != null) {
                    set.add(ref);
                }
            }
            return set.isEmpty() || some(10) == 0 ? ref() : set.get(some(set.size()));
        }

        int mask() {
            int bits = random.nextInt() & 1073741823;
            switch (some(6)) {
                case 0: return 1073741823;
                case 1: return bits | random.nextInt() & 1073741823 | random.nextInt() & 1073741823;
                case 2: return (1 << some(30)) - 1;
                case 3: return ((1 << some(30)) - 1) | bits;
                case 4: return some(20) == 0 ? bits + 1073741823 + 1 : bits;
                default: return some(20) == 0 ? -1 - bits : bits | 7;
            }
        }

        String ask(boolean isReal, String call, int[] a) {
            try {
                return "" + (isReal ? real(real, call, a) : model.call(call, a));
            } catch (IndexOutOfBoundsException | IllegalArgumentException | IllegalStateException e) {
                String name = e.getClass().getSimpleName();
                return e instanceof IndexOutOfBoundsException && isReal && e.getClass() != IndexOutOfBoundsException.class
                        ? "the machine's " + name : name;
            }
        }

        int call(String call, int... a) {
            if (!isFine) {
                return -1;
            }
            calls++;
            String want = ask(false, call, a);
            String got = ask(true, call, a);
            boolean isNumber = Character.isDigit(want.charAt(want.length() - 1));
            answers.merge(call + " " + (isNumber ? "ok" : want), 1, Integer::sum);
            history.add(call + Arrays.toString(a) + " -> " + want);
            if (!got.equals(want)) {
                isFine = false;
                System.out.println("seed " + seed + ", call " + calls + ": " + call + Arrays.toString(a)
                        + " answered " + got + ", due is " + want);
                for (String line : history.subList(Math.max(0, history.size() - 40), history.size())) {
                    System.out.println("    " + line);
                }
            }
            return isNumber ? Integer.parseInt(want) : -1;
        }

        void draft(int[] body) {
            if (!model.draft.isEmpty()) {
                call("clear");
            }
            for (int number : body) {
                call("put", number);
            }
        }

        void content() {
            content(store());
        }

        void content(int store) {
            int[] body;
            if (kindOfRun == 1 || kindOfRun == 2) {
                body = new int[] {some(100), some(100)};
            } else if (bodies.isEmpty() || some(4) == 0) {
                body = new int[some(6) == 0 ? some(3) : 3 + some(6)];
                for (int k = 0; k < body.length; k++) {
                    body[k] = some(9);
                }
            } else {
                body = bodies.get(bodies.size() - 1 - Math.min(some(6), bodies.size() - 1)).clone();
                if (body.length > 0) {
                    body[some(body.length)] = some(12);
                }
                if (some(3) == 0) {
                    body = Arrays.copyOf(body, Math.min(12, Math.max(0, body.length + some(5) - 2)));
                }
            }
            if (some(40) == 0 && body.length > 0) {
                body[some(body.length)] = 99 + some(2);
            }
            bodies.add(body);
            draft(body);
            call("content", store);
        }

        int folder(int store) {
            int entries = some(5) == 0 ? some(7) : 1 + some(3);
            int[] body = new int[2 * entries];
            int label = some(2);
            for (int k = 0; k < entries; k++) {
                body[2 * k] = some(60) == 0 ? some(12) : Math.min(label, some(40) == 0 ? 10 : 9);
                body[2 * k + 1] = Math.max(0, name(some(4) == 0 ? 1 : 0, store));
                label += 1 + (some(4) == 0 ? 1 : 0);
            }
            if (some(40) == 0) {
                body = Arrays.copyOf(body, Math.max(0, body.length - 1));
            }
            draft(body);
            return call("folder", store);
        }

        int version(int store) {
            int one = orNone(name(2, store), 6);
            return call("version", store, name(1, store), some(40) == 0 ? some(3) * 10000 - 10000 : some(6), one,
                    some(3) == 0 && (one != -1 || some(9) == 0) ? name(2, store) : -1);
        }

        void transaction() {
            int store = store();
            int count = some(8) == 0 ? 0 : 1 + some(3);
            for (int k = 0; k < count; k++) {
                int ref = ref();
                boolean is = store >= 0 && store < 2 && ref >= 0 && ref < 6;
                int old = is && some(8) != 0 ? Model.unboxed(model.depots[store].seen().refs[ref]) : orNone(name(-1), 3);
                call("expect", store, ref, old, orNone(name(some(5) == 0 ? 3 : some(30) == 0 ? -1 : 2, store), 12));
            }
            call("commit", store);
        }

        /** A few objects and a commit in one store, so that there is something to send. */
        void grow() {
            int store = some(3) == 0 ? 1 : 0;
            for (int k = some(3); k > 0; k--) {
                content(store);
            }
            folder(store);
            int version = version(store);
            if (some(5) == 0) {
                version = call("tag", store, version);
            }
            int ref = some(3);
            if (version != -1) {
                call("expect", store, ref, Model.unboxed(model.depots[store].seen().refs[ref]), version);
                call("commit", store);
            }
        }

        void step() {
            int roll = some(100);
            if (kindOfRun == 1 && some(3) == 0) {
                content();
            } else if (kindOfRun == 2 && some(2) == 0) {
                content(0);
                call("pack", some(20) == 0 ? 1 : 0, some(9), some(9));
            } else if (kindOfRun == 3 && some(4) == 0) {
                replaceAndWalk();
            } else if (kindOfRun == 4 && some(4) == 0) {
                int from = some(2);
                call("fetch", from, refOf(from), some(4), some(2));
            } else if (roll < 6) {
                content();
            } else if (roll < 10) {
                folder(store());
            } else if (roll < 16) {
                version(store());
            } else if (roll < 18) {
                int store = store();
                call("tag", store, name(2, store));
            } else if (roll < 32) {
                grow();
            } else if (roll < 36) {
                transaction();
            } else {
                deal(some(60));
            }
        }

        void deal(int roll) {
            int store = store();
            if (roll < 6) {
                call("fetch", store, refOf(store), some(20) == 0 ? some(25) - 2 : some(2) * some(4), some(3) == 0 ? 1 : 0);
            } else if (roll < 10) {
                call("push", store, refOf(store));
            } else if (roll < 14) {
                call("spoil", store, name(-1, store));
            } else if (roll < 17) {
                call("pack", store(), some(20) == 0 ? some(12) - 2 : some(9), some(20) == 0 ? some(12) - 2 : some(6));
            } else if (roll < 20) {
                call("sweep", store());
            } else if (roll < 22) {
                call("tick", some(20) == 0 ? some(120) - 10 : 1 + some(8));
            } else if (roll < 24) {
                call("crash", store(), mask());
            } else if (roll < 25) {
                call("sync", store());
            } else if (roll < 27) {
                call("replace", store, name(2, store), orNone(name(2, store), 4));
            } else if (roll < 29) {
                call("choose", store, name(2, store));
            } else if (roll < 30) {
                call("pin", store(), name(-1));
            } else if (roll < 31) {
                call("line");
                if (!model.up && some(3) != 0) {
                    call("line");
                }
            } else if (roll < 33) {
                call("mend", store());
            } else if (roll < 37) {
                call("read", store(), name(some(3) - 1), some(4) - (some(10) == 0 ? 1 : 0));
            } else if (roll < 40) {
                walk();
            } else {
                probe(some(23));
            }
        }

        /** What is shallow and what is seen as another one meet in walks. */
        void replaceAndWalk() {
            int store = store();
            if (some(3) == 0) {
                call("fetch", some(2), ref(), 1 + some(3), some(3) == 0 ? 1 : 0);
            }
            int name = name(2, store);
            call("replace", store, name, orNone(name(2, store), 6));
            call("walk", store, some(2) == 0 ? name : name(2, store), orNone(name(2, store), 2));
            call("walkAt", some(4));
        }

        void walk() {
            int count = call("walk", store(), name(2), orNone(name(2), 2));
            for (int place = 0; place < Math.min(count, 6); place++) {
                call("walkAt", place);
            }
        }

        void probe(int which) {
            int store = store();
            switch (which) {
                case 0: call("told"); break;
                case 1: call("kind", name(-1)); break;
                case 2: call("length", name(-1)); break;
                case 3: call("part", name(-1), some(6) - 1); break;
                case 4: call("where", store, name(-1)); break;
                case 5: call("unsynced", store); break;
                case 6: call("ref", store, ref()); break;
                case 7: call("logs", store); break;
                case 8: call("isWhole", store, name(-1)); break;
                case 9: call("isShallow", store, name(2)); break;
                case 10: call("walkAt", some(9) - 1); break;
                case 11: call("chosen", store); break;
                case 12: call("reach", store, name(-1)); break;
                case 13: call("reachByRounds", store, name(-1)); break;
                case 14: call("packs", store); break;
                case 15: call("entries", store, some(12) - 1); break;
                case 16: call("size", store, some(12)); break;
                case 17: call("base", store, some(12), some(12) - 1); break;
                case 18: call("missing", store); break;
                case 19: call("missingAt", store, some(4) - 1); break;
                case 20: call("clear"); break;
                case 21: call("put", some(10200) - 100); break;
                default: call("content", store()); break;
            }
        }

        void probeAll() {
            for (int place = -1; place <= model.walked.size(); place++) {
                call("walkAt", place);
            }
            for (int store = 0; store < 2; store++) {
                for (String asked : new String[] {"unsynced", "logs", "chosen", "packs", "missing"}) {
                    call(asked, store);
                }
                for (int ref = -1; ref < 7; ref++) {
                    call("ref", store, ref);
                }
                for (int pack = -1; pack <= 20; pack++) {
                    int entries = call("entries", store, pack);
                    call("size", store, pack);
                    for (int place = -1; place <= entries; place++) {
                        call("base", store, pack, place);
                    }
                }
                for (int name : new ArrayList<>(model.objs.keySet())) {
                    for (String asked : new String[] {"where", "isWhole", "isShallow", "reach", "reachByRounds"}) {
                        call(asked, store, name);
                    }
                }
                for (int place = -1; place <= model.lost(store).size(); place++) {
                    call("missingAt", store, place);
                }
                for (int name : new ArrayList<>(model.objs.keySet())) {
                    call("read", store, name, 0);
                }
            }
            call("sweep", 0);
            call("sweep", 1);
        }
    }
}
