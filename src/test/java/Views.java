import java.util.ArrayList;
import java.util.List;

/** All that can be seen of a scene, by the calls of the face; each view is taken of a scene made anew. */
final class Views {
    private interface View {
        void see(Scene s, Views out);
    }

    private static final int[] MASKS = {0, 1, 2, 5, 7, 63, 1023, 0x2AAAAAAA, 1073741823};
    private static final int[] WAITS = {1, 6, 7, 9, 10, 17, 20};

    private final List<String> seen = new ArrayList<>();
    private final StringBuilder row = new StringBuilder();

    static List<String> of(Trial.Maker maker) {
        Views views = new Views();
        views.take("objects", maker, Views::objects);
        views.take("bodies", maker, Views::bodies);
        views.take("walk", maker, Views::walk);
        views.take("rest", maker, (s, out) -> out.say(s.clear()).say(s.line()).say(s.tick(1)));
        views.take("draft", maker, (s, out) -> out.ask(() -> s.content(0)).ask(() -> s.kind(s.nth(0))));
        for (int store = 0; store < 2; store++) {
            int at = store;
            views.take("copies " + at, maker, (s, out) -> out.each(s, name -> s.where(at, name)));
            views.take("wholes " + at, maker, (s, out) -> out.each(s, name -> s.isWhole(at, name)));
            views.take("shallow " + at, maker, (s, out) -> out.each(s, name -> s.isShallow(at, name)));
            views.take("reach " + at, maker, (s, out) -> out.each(s, name -> s.reach(at, name)));
            views.take("reads " + at, maker, (s, out) -> out.each(s, name -> s.read(at, name, 0)));
            views.take("pins " + at, maker, (s, out) -> out.each(s, name -> s.pin(at, name)));
            views.take("replaced " + at, maker, (s, out) -> out.each(s, name -> s.replace(at, name, Scene.NONE)));
            views.take("choice " + at, maker, (s, out) -> out.each(s, name -> s.choose(at, name)));
            views.take("spoiled " + at, maker, (s, out) -> out.each(s, name -> s.spoil(at, name))
                    .each(s, name -> s.spoil(at, name)));
            views.take("counts " + at, maker, (s, out) -> out.counts(s, at));
            views.take("packs " + at, maker, (s, out) -> out.packs(s, at));
            views.take("transaction " + at, maker, (s, out) -> out.transaction(s, at));
            views.take("commit " + at, maker, (s, out) -> out.ask(() -> s.commit(at)).counts(s, at));
            views.take("pack " + at, maker, (s, out) -> out.ask(() -> s.pack(at, 8, 8)).packs(s, at));
            views.take("mend " + at, maker, (s, out) -> out.ask(() -> s.mend(at)).counts(s, at));
            views.take("fetch " + at, maker, (s, out) -> out.fetched(s, at));
            for (int mask : MASKS) {
                views.take("crash " + at + " " + mask, maker, (s, out) -> out.ask(() -> s.crash(at, mask))
                        .counts(s, at).each(s, name -> s.where(at, name)));
            }
            for (int wait : WAITS) {
                views.take("sweep " + at + " " + wait, maker, (s, out) -> out.ask(() -> s.tick(wait))
                        .ask(() -> s.sweep(at)).each(s, name -> s.where(at, name)));
            }
        }
        return views.seen;
    }

    private interface Ask {
        Object of();
    }

    private interface AskOf {
        Object of(int name);
    }

    private void take(String what, Trial.Maker maker, View view) {
        row.setLength(0);
        row.append(what).append(':');
        view.see(maker.make(), this);
        seen.add(row.toString());
    }

    private Views say(Object answer) {
        row.append(' ').append(answer);
        return this;
    }

    private Views ask(Ask ask) {
        try {
            return say(ask.of());
        } catch (RuntimeException e) {
            return say(e.getClass().getSimpleName());
        }
    }

    private Views each(Scene s, AskOf ask) {
        for (int name : new ArrayList<>(s.names())) {
            ask(() -> ask.of(name));
        }
        return this;
    }

    private static void objects(Scene s, Views out) {
        out.say(s.told());
        out.each(s, name -> name + "=" + s.kind(name) + "/" + s.length(name));
    }

    private static void bodies(Scene s, Views out) {
        for (int name : new ArrayList<>(s.names())) {
            out.ask(() -> s.part(name, 0)).ask(() -> s.part(name, 1));
        }
    }

    private static void walk(Scene s, Views out) {
        for (int place = 0; place < 6; place++) {
            int at = place;
            out.ask(() -> s.walkAt(at));
        }
    }

    private Views counts(Scene s, int store) {
        say(s.unsynced(store)).say(s.logs(store)).say(s.packs(store)).say(s.chosen(store)).say(s.missing(store));
        for (int ref = 0; ref < 6; ref++) {
            say(s.ref(store, ref));
        }
        for (int place = 0; place < 5; place++) {
            int at = place;
            ask(() -> s.missingAt(store, at));
        }
        return this;
    }

    private void packs(Scene s, int store) {
        for (int pack = 0; pack < 20; pack++) {
            int at = pack;
            ask(() -> s.entries(store, at)).ask(() -> s.size(store, at));
            for (int place = 0; place < 6; place++) {
                int k = place;
                ask(() -> s.base(store, at, k));
            }
        }
    }

    private void transaction(Scene s, int store) {
        for (int ref = 0; ref < 6; ref++) {
            int at = ref;
            ask(() -> s.expect(store, at, Scene.NONE, Scene.NONE));
        }
    }

    private void fetched(Scene s, int store) {
        for (int ref = 0; ref < 6; ref++) {
            int at = ref;
            ask(() -> s.fetch(store, at, 0, false));
        }
        each(s, name -> s.where(1 - store, name));
    }
}
