/** The boundaries of replacing, walking, choosing and reaching: promises 24 to 30. */
final class WalkBounds {
    private static final int NONE = Scene.NONE;

    private WalkBounds() {
    }

    static void run() {
        replacing();
        badReplacing();
        circles();
        walks();
        orders();
        seen();
        seenShallow();
        badWalks();
        walkPlaces();
        choosing();
        badChoosing();
        chosenNoMore();
        reaching();
        reachingByChoice();
    }

    private static void isWalk(Scene s, int count, int... names) {
        Trial.same(count, names.length);
        for (int place = 0; place < names.length; place++) {
            Trial.same(s.walkAt(place), names[place]);
        }
    }

    /** The parents in store 0 are a of b, a of c, and b and c of d; all have one FOLDER without entries. */
    private static Scene square() {
        Scene s = new Scene();
        s.f = s.tellFolder(0);
        s.u = s.version(0, s.f, 1, NONE, NONE);
        s.v = s.version(0, s.f, 2, s.u, NONE);
        s.w = s.version(0, s.f, 3, s.u, NONE);
        s.t = s.version(0, s.f, 4, s.v, s.w);
        return s;
    }

    private static void replacing() {
        Trial.test(24, "it was replaced by NONE at first, and by what it was told last", () -> {
            Scene s = square();
            Trial.same(s.replace(0, s.t, s.u), NONE);
            Trial.same(s.replace(0, s.t, s.v), s.u);
            Trial.same(s.replace(0, s.t, NONE), s.v);
            Trial.same(s.replace(0, s.t, NONE), NONE);
        });
        Trial.test(24, "each is one NOTE, also if it changes nothing", () -> {
            Scene s = square();
            s.sync(0);
            s.replace(0, s.t, s.u);
            s.replace(0, s.t, s.u);
            s.replace(0, s.v, NONE);
            Trial.same(s.unsynced(0), 3);
            Trial.same(s.logs(0), 0);
        });
        Trial.test(24, "it is replaced in that store alone", () -> {
            Scene s = square();
            s.replace(0, s.t, s.u);
            Trial.same(s.replace(1, s.t, NONE), NONE);
        });
        Trial.test(24, "it need not be there itself", () -> {
            Scene s = Scene.rich();
            Trial.same(s.where(1, s.v), 0);
            Trial.same(s.replace(1, s.u, s.w), NONE);
            isWalk(s, s.walk(1, s.u, NONE), s.u);
        });
        Trial.test(24, "to be replaced no more nothing has to be whole", () -> {
            Scene s = square();
            s.crash(0, 0);
            Trial.same(s.replace(0, s.t, NONE), NONE);
        });
    }

    private static void badReplacing() {
        Trial.Maker rich = Scene::rich;
        Trial.test(24, "NONE is nothing to be replaced",
                () -> Trial.outOfBounds(rich, s -> s.replace(0, NONE, s.v), s -> s.replace(0, NONE, NONE)));
        Trial.test(24, "what is no VERSION is not replaced", () -> Trial.badArgument(rich,
                s -> s.replace(0, s.c, NONE), s -> s.replace(0, s.f, s.v), s -> s.replace(0, s.t, s.v)));
        Trial.test(24, "by what is no VERSION it is not replaced", () -> Trial.badArgument(rich,
                s -> s.replace(0, s.u, s.c), s -> s.replace(0, s.u, s.f), s -> s.replace(0, s.u, s.t)));
        Trial.test(24, "by itself it is not replaced", () -> Trial.badArgument(rich, s -> s.replace(0, s.v, s.v)));
        Trial.test(24, "what was not told is told ahead of what is no VERSION",
                () -> Trial.outOfBounds(rich, s -> s.replace(0, s.c, 8900), s -> s.replace(0, -2, s.c)));
        Trial.test(24, "no such store is told ahead of what is no VERSION",
                () -> Trial.outOfBounds(rich, s -> s.replace(2, s.c, s.c), s -> s.replace(-1, s.v, s.v)));
        Trial.test(24, "both the same is told ahead of not whole",
                () -> Trial.badArgument(rich, s -> s.replace(1, s.v, s.v), s -> s.replace(1, s.c, s.v)));
        Trial.test(24, "that by which it is replaced is whole in the store",
                () -> Trial.badState(rich, s -> s.replace(1, s.w, s.v), s -> s.replace(1, s.w, s.u)));
        Trial.test(24, "that by which it is replaced is whole with what is promised", () -> {
            Scene s = Scene.half();
            s.w = s.version(1, s.f, 6, NONE, NONE);
            Trial.same(s.replace(1, s.w, s.v), NONE);
        });
    }

    private static void circles() {
        Trial.Maker square = WalkBounds::square;
        Trial.test(24, "no VERSION comes from itself by a parent, near or far",
                () -> Trial.badState(square, s -> s.replace(0, s.u, s.v), s -> s.replace(0, s.u, s.t)));
        Trial.test(24, "no VERSION comes from itself by a second parent",
                () -> Trial.badState(square, s -> s.replace(0, s.w, s.t)));
        Trial.test(24, "a VERSION may be replaced by one that it comes from", () -> {
            Scene s = square();
            Trial.same(s.replace(0, s.t, s.u), NONE);
            isWalk(s, s.walk(0, s.t, NONE), s.t);
        });
        Trial.test(24, "no VERSION comes from itself by two that are replaced", () -> Trial.badState(() -> {
            Scene s = square();
            s.c = s.version(0, s.f, 8, s.v, NONE);
            s.d = s.version(0, s.f, 9, s.w, NONE);
            s.replace(0, s.w, s.c);
            return s;
        }, s -> s.replace(0, s.v, s.d)));
        Trial.test(24, "no VERSION comes from itself even if none was shallow", () -> {
            Trial.Maker shallow = () -> {
                Scene s = Scene.rich();
                s.sync(1);
                return s;
            };
            Trial.yes(shallow.make().isShallow(1, shallow.make().w));
            Trial.badState(shallow, s -> s.replace(1, s.v, s.w));
        });
        Trial.test(24, "no VERSION comes from itself by what is replaced no more", () -> {
            Trial.Maker hidden = () -> {
                Scene s = square();
                s.g = s.version(0, s.f, 7, NONE, NONE);
                s.replace(0, s.v, s.g);
                s.d = s.version(0, s.f, 9, s.v, NONE);
                s.replace(0, s.u, s.d);
                return s;
            };
            Trial.badState(hidden, s -> s.replace(0, s.v, NONE));
            Scene s = hidden.make();
            isWalk(s, s.walk(0, s.u, NONE), s.u, s.v);
        });
        Trial.test(24, "a VERSION is seen as another one only once", () -> {
            Scene s = square();
            s.replace(0, s.w, s.v);
            s.g = s.version(0, s.f, 7, NONE, NONE);
            s.replace(0, s.v, s.g);
            isWalk(s, s.walk(0, s.w, NONE), s.w, s.u);
            isWalk(s, s.walk(0, s.v, NONE), s.v);
        });
    }

    private static void walks() {
        Trial.test(25, "a VERSION without parents is a walk of one", () -> {
            Scene s = square();
            isWalk(s, s.walk(0, s.u, NONE), s.u);
        });
        Trial.test(25, "what comes by two ways is walked once", () -> {
            Scene s = square();
            isWalk(s, s.walk(0, s.t, NONE), s.t, s.w, s.v, s.u);
        });
        Trial.test(25, "hiding itself leaves an empty walk", () -> {
            Scene s = square();
            Trial.same(s.walk(0, s.t, s.t), 0);
        });
        Trial.test(25, "hiding what comes from it leaves an empty walk", () -> {
            Scene s = square();
            Trial.same(s.walk(0, s.u, s.t), 0);
        });
        Trial.test(25, "the hidden one is left out too, and all it comes from", () -> {
            Scene s = square();
            isWalk(s, s.walk(0, s.t, s.v), s.t, s.w);
            isWalk(s, s.walk(0, s.t, s.u), s.t, s.w, s.v);
        });
        Trial.test(25, "hiding one that is apart hides nothing", () -> {
            Scene s = square();
            int apart = s.version(0, s.f, 9, NONE, NONE);
            isWalk(s, s.walk(0, s.v, apart), s.v, s.u);
        });
        Trial.test(25, "it goes by bodies, whatever is there in the store", () -> {
            Scene s = square();
            s.crash(0, 0);
            isWalk(s, s.walk(0, s.t, NONE), s.t, s.w, s.v, s.u);
            isWalk(s, s.walk(1, s.v, NONE), s.v, s.u);
        });
        Trial.test(25, "98 VERSIONs are walked", () -> {
            Scene s = new Scene();
            int[] chain = s.chain(0, s.tellFolder(0), 98);
            Trial.same(s.walk(0, chain[97], NONE), 98);
            Trial.same(s.walkAt(0), chain[97]);
            Trial.same(s.walkAt(97), chain[0]);
            Trial.same(s.walk(0, chain[97], chain[96]), 1);
            Trial.same(s.walk(0, chain[97], chain[0]), 97);
        });
    }

    private static void orders() {
        Trial.test(25, "a greater generation goes ahead of a later date", () -> {
            Scene s = new Scene();
            s.f = s.tellFolder(0);
            s.u = s.version(0, s.f, 9999, NONE, NONE);
            s.v = s.version(0, s.f, 0, NONE, NONE);
            s.w = s.version(0, s.f, 0, s.v, NONE);
            s.t = s.version(0, s.f, 0, s.u, s.w);
            isWalk(s, s.walk(0, s.t, NONE), s.t, s.w, s.u, s.v);
        });
        Trial.test(25, "a generation is 1 more than the greatest of the parents, not the first or last", () -> {
            for (int order = 0; order < 2; order++) {
                Scene s = new Scene();
                s.f = s.tellFolder(0);
                int[] chain = s.chain(0, s.f, 3);
                int low = s.version(0, s.f, 50, NONE, NONE);
                int top = s.version(0, s.f, 0, order == 0 ? low : chain[2], order == 0 ? chain[2] : low);
                int other = s.version(0, s.f, 60, low, NONE);
                int tip = s.version(0, s.f, 70, top, other);
                isWalk(s, s.walk(0, tip, NONE), tip, top, chain[2], other, chain[1], low, chain[0]);
            }
        });
        Trial.test(25, "of one generation and date the lower name goes ahead, whichever was told first", () -> {
            for (int order = 0; order < 4; order++) {
                Scene s = new Scene();
                int f = s.tellFolder(0);
                int g = s.tellFolder(0, 0, f);
                int one = s.version(0, order < 2 ? f : g, 5, NONE, NONE);
                int other = s.version(0, order < 2 ? g : f, 5, NONE, NONE);
                int both = s.version(0, f, 5, order % 2 == 0 ? one : other, order % 2 == 0 ? other : one);
                isWalk(s, s.walk(0, both, NONE), both, Math.min(one, other), Math.max(one, other));
            }
        });
        Trial.test(25, "dates by 1 apart are apart", () -> {
            Scene s = new Scene();
            int f = s.tellFolder(0);
            int one = s.version(0, f, 9998, NONE, NONE);
            int other = s.version(0, f, 9999, NONE, NONE);
            int both = s.version(0, f, 0, one, other);
            isWalk(s, s.walk(0, both, NONE), both, other, one);
        });
    }

    private static void seen() {
        Trial.test(25, "the date goes as it is seen", () -> {
            Scene s = square();
            int late = s.version(0, s.f, 9, s.u, NONE);
            s.replace(0, s.v, late);
            isWalk(s, s.walk(0, s.t, NONE), s.t, s.v, s.w, s.u);
        });
        Trial.test(25, "the parents go as they are seen, and generations by them", () -> {
            Scene s = square();
            s.replace(0, s.w, s.v);
            s.g = s.version(0, s.f, 0, s.w, NONE);
            s.replace(0, s.v, s.g);
            isWalk(s, s.walk(0, s.t, NONE), s.t, s.v, s.w, s.u);
        });
        Trial.test(25, "a VERSION that is shallow in the store has no seen parents", () -> {
            Scene s = Scene.rich();
            isWalk(s, s.walk(1, s.w, NONE), s.w);
            isWalk(s, s.walk(0, s.w, NONE), s.w, s.v);
        });
        Trial.test(25, "the generation of one that is shallow is 1, whatever it was in another walk", () -> {
            Scene s = new Scene();
            s.f = s.tellFolder(0);
            int[] chain = s.chain(0, s.f, 4);
            s.move(0, 0, chain[3]);
            s.fetch(0, 0, 1, false);
            s.u = s.version(1, s.f, 50, NONE, NONE);
            s.v = s.version(1, s.f, 1, s.u, NONE);
            s.w = s.version(1, s.f, 1, chain[3], s.v);
            isWalk(s, s.walk(1, s.w, NONE), s.w, s.v, s.u, chain[3]);
            isWalk(s, s.walk(0, s.w, NONE), s.w, chain[3], chain[2], chain[1], s.v, s.u, chain[0]);
            isWalk(s, s.walk(1, s.w, NONE), s.w, s.v, s.u, chain[3]);
        });
        Trial.test(25, "seen parents may have been told later, and theirs too", () -> {
            Scene s = square();
            int[] later = s.chain(0, s.tellFolder(0, 0, s.f), 12);
            s.c = s.version(0, s.f, 70, later[11], NONE);
            s.replace(0, s.u, s.c);
            Trial.same(s.walk(0, s.u, NONE), 13);
            Trial.same(s.walkAt(0), s.u);
            Trial.same(s.walkAt(12), later[0]);
            Trial.same(s.walk(0, s.t, s.u), 3);
        });
    }

    private static void seenShallow() {
        Trial.test(25, "what is seen as one that is shallow has no seen parents", () -> {
            Scene s = Scene.rich();
            s.replace(1, s.u, s.w);
            isWalk(s, s.walk(1, s.u, NONE), s.u);
        });
        Trial.test(25, "what is shallow itself but seen as one that is not has the parents of that", () -> {
            Scene s = Scene.rich();
            s.clear();
            s.f = s.tellFolder(1, 0, s.c);
            int low = s.version(1, s.f, 1, NONE, NONE);
            int high = s.version(1, s.f, 2, low, NONE);
            s.replace(1, s.w, high);
            isWalk(s, s.walk(1, s.w, NONE), s.w, low);
        });
        Trial.test(25, "hiding goes by seen parents too", () -> {
            Scene s = square();
            s.replace(0, s.v, s.u);
            isWalk(s, s.walk(0, s.t, s.v), s.t, s.w, s.u);
        });
        Trial.test(25, "what is replaced in the other store is not seen so", () -> {
            Scene s = square();
            s.replace(0, s.v, s.u);
            isWalk(s, s.walk(1, s.v, NONE), s.v, s.u);
        });
    }

    private static void badWalks() {
        Trial.Maker rich = Scene::rich;
        Trial.test(25, "NONE is nothing to walk from", () -> Trial.outOfBounds(rich, s -> s.walk(0, NONE, NONE)));
        Trial.test(25, "what is no VERSION is nothing to walk from, and nothing to hide", () -> Trial.badArgument(rich,
                s -> s.walk(0, s.c, NONE), s -> s.walk(0, s.f, NONE), s -> s.walk(0, s.t, NONE),
                s -> s.walk(0, s.w, s.c), s -> s.walk(0, s.w, s.g), s -> s.walk(0, s.w, s.t)));
        Trial.test(25, "what was not told is told ahead of what is no VERSION",
                () -> Trial.outOfBounds(rich, s -> s.walk(0, s.c, 8900), s -> s.walk(0, -2, s.c)));
        Trial.test(25, "no such store is told ahead of what is no VERSION",
                () -> Trial.outOfBounds(rich, s -> s.walk(2, s.c, s.c)));
    }

    private static void walkPlaces() {
        Trial.test(26, "the first and the last place", () -> {
            Scene s = Scene.rich();
            Trial.same(s.walkAt(0), s.w);
            Trial.same(s.walkAt(1), s.v);
        });
        Trial.test(26, "no place below 0 or beyond the last one", () -> Trial.outOfBounds(Scene::rich,
                s -> s.walkAt(-1), s -> s.walkAt(2), s -> s.walkAt(Integer.MAX_VALUE),
                s -> s.walkAt(Integer.MIN_VALUE)));
        Trial.test(26, "an empty walk has no place", () -> Trial.outOfBounds(() -> {
            Scene s = square();
            s.walk(0, s.t, NONE);
            s.walk(0, s.u, s.t);
            return s;
        }, s -> s.walkAt(0)));
        Trial.test(26, "the latest walk is that of whatever store", () -> {
            Scene s = Scene.rich();
            s.walk(1, s.v, NONE);
            Trial.same(s.walkAt(0), s.v);
        });
        Trial.test(26, "a walk stays what it was when versions are replaced", () -> {
            Scene s = Scene.rich();
            s.replace(0, s.w, s.u);
            Trial.same(s.walkAt(1), s.v);
        });
    }

    private static Scene fourChosen() {
        Scene s = new Scene();
        int[] chain = s.chain(0, s.tellFolder(0), 6);
        for (int k = 0; k < 4; k++) {
            s.choose(0, chain[k]);
        }
        s.v = chain[0];
        s.w = chain[4];
        s.u = chain[5];
        s.t = s.tag(0, s.v);
        return s;
    }

    private static void choosing() {
        Trial.test(28, "none is chosen at first", () -> Trial.same(new Scene().chosen(0) + new Scene().chosen(1), 0));
        Trial.test(27, "4 may be chosen", () -> {
            Scene s = new Scene();
            int[] chain = s.chain(0, s.tellFolder(0), 4);
            for (int k = 0; k < 4; k++) {
                Trial.same(s.choose(0, chain[3 - k]), k + 1);
                Trial.same(s.chosen(0), k + 1);
            }
        });
        Trial.test(27, "a fifth is refused", () -> Trial.badState(WalkBounds::fourChosen, s -> s.choose(0, s.w)));
        Trial.test(27, "4 in one store leave the other one empty", () -> {
            Scene s = fourChosen();
            s.move(0, 0, s.u);
            s.fetch(0, 0, 0, false);
            Trial.same(s.chosen(1), 0);
            Trial.same(s.choose(1, s.u), 1);
            Trial.same(s.chosen(0), 4);
        });
    }

    private static void badChoosing() {
        Trial.Maker rich = Scene::rich;
        Trial.test(27, "what is no VERSION is not chosen",
                () -> Trial.badArgument(rich, s -> s.choose(0, s.c), s -> s.choose(0, s.f), s -> s.choose(0, s.t)));
        Trial.test(27, "NONE is not chosen", () -> Trial.outOfBounds(rich, s -> s.choose(0, NONE)));
        Trial.test(27, "what is chosen is not chosen again, the first or the last", () -> {
            Trial.badState(rich, s -> s.choose(0, s.v));
            Trial.badState(() -> {
                Scene s = Scene.rich();
                s.choose(0, s.w);
                return s;
            }, s -> s.choose(0, s.v), s -> s.choose(0, s.w));
        });
        Trial.test(27, "what is not whole there is not chosen",
                () -> Trial.badState(rich, s -> s.choose(1, s.v), s -> s.choose(1, s.u)));
        Trial.test(27, "what is whole with promises and shallow is chosen", () -> {
            Scene s = Scene.rich();
            Trial.same(s.where(1, s.d), PackSpring.PROMISED);
            Trial.same(s.chosen(1), 1);
        });
        Trial.test(27, "no VERSION is told ahead of 4 that are chosen",
                () -> Trial.badArgument(WalkBounds::fourChosen, s -> s.choose(0, s.t)));
        Trial.test(27, "no such store is told ahead of no VERSION",
                () -> Trial.outOfBounds(rich, s -> s.choose(2, s.c)));
    }

    private static void chosenNoMore() {
        Trial.test(28, "a NOTE that makes a VERSION shallow leaves none chosen in that store", () -> {
            Scene s = Scene.half();
            s.w = s.version(0, s.f, 6, s.v, NONE);
            s.choose(0, s.v);
            s.choose(1, s.v);
            s.move(0, 1, s.w);
            s.move(1, 0, NONE);
            Trial.same(s.fetch(0, 1, 1, true), 2);
            Trial.yes(s.isShallow(1, s.w));
            Trial.same(s.chosen(1), 0);
            Trial.same(s.chosen(0), 1);
        });
        Trial.test(28, "a NOTE that makes a VERSION shallow no more leaves none chosen", () -> {
            Scene s = Scene.rich();
            Trial.same(s.chosen(1), 1);
            s.fetch(0, 0, 2, true);
            Trial.no(s.isShallow(1, s.w));
            Trial.same(s.chosen(1), 0);
            Trial.same(s.chosen(0), 1);
        });
        Trial.test(28, "a NOTE that leaves all as shallow as they were leaves what is chosen", () -> {
            Scene s = Scene.rich();
            s.fetch(0, 0, 1, false);
            Trial.same(s.chosen(1), 1);
            s.move(1, 3, s.w);
            s.replace(1, s.u, s.w);
            Trial.same(s.chosen(1), 1);
        });
        Trial.test(28, "when none is chosen any more 4 may be again", () -> {
            Scene s = Scene.rich();
            s.fetch(0, 0, 2, true);
            Trial.same(s.choose(1, s.w), 1);
        });
    }

    private static void reaching() {
        Trial.test(29, "an object without entries reaches itself", () -> {
            Scene s = square();
            Trial.same(s.reach(0, s.f), 1);
            Trial.same(s.reach(0, s.tellContent(0)), 1);
        });
        Trial.test(29, "what is reached by two ways counts once", () -> {
            Scene s = square();
            Trial.same(s.reach(0, s.t), 5);
            Trial.same(s.reach(0, s.tag(0, s.t)), 6);
        });
        Trial.test(29, "a TAG is reached by itself alone", () -> {
            Scene s = Scene.rich();
            Trial.same(s.reach(0, s.t), 7);
            Trial.same(s.reach(0, s.w), 6);
        });
        Trial.test(29, "the parents of what is shallow there are not reached", () -> {
            Scene s = Scene.rich();
            Trial.same(s.reach(1, s.w), 4);
            Trial.same(s.reach(1, s.t), 5);
            Trial.same(s.reach(1, s.v), 3);
        });
        Trial.test(29, "what is shallow by a NOTE that is not synced is so at once", () -> {
            Scene s = new Scene();
            int[] chain = s.chain(0, s.tellFolder(0), 3);
            s.move(0, 0, chain[2]);
            s.fetch(0, 0, 1, false);
            Trial.same(s.unsynced(1), 2);
            Trial.same(s.reach(1, chain[2]), 2);
            Trial.same(s.reachByRounds(1, chain[2]), 2);
            Trial.same(s.reach(0, chain[2]), 4);
        });
        Trial.test(29, "what is replaced reaches by its own body", () -> {
            Scene s = square();
            s.replace(0, s.v, s.w);
            s.replace(0, s.w, NONE);
            Trial.same(s.reach(0, s.v), 3);
        });
    }

    private static void reachingByChoice() {
        Trial.test(29, "100 objects are reached at the most", () -> {
            Scene s = new Scene();
            int[] chain = s.chain(0, s.tellFolder(0), 98);
            int tag = s.tag(0, chain[97]);
            Trial.same(s.reach(0, tag), 100);
            Trial.same(s.reachByRounds(0, tag), 100);
            Trial.same(s.reach(1, tag), 100);
        });
        Trial.test(29, "what is kept for chosen VERSIONs changes no answer", () -> {
            Scene s = fourChosen();
            Trial.same(s.reach(0, s.u), 7);
            Trial.same(s.reach(0, s.v), 2);
            Trial.same(s.reach(0, s.t), 3);
        });
        Trial.test(29, "what was kept ahead of a NOTE that reaches further is not gone by", () -> {
            Scene s = Scene.rich();
            Trial.same(s.reach(1, s.w), 4);
            s.fetch(0, 0, 0, true);
            Trial.same(s.reach(1, s.w), 6);
            Trial.same(s.reachByRounds(1, s.w), 6);
        });
        Trial.test(30, "the same by rounds", () -> {
            Scene s = Scene.rich();
            for (int store = 0; store < 2; store++) {
                for (int name : s.names()) {
                    Trial.same(s.reachByRounds(store, name), s.reach(store, name));
                }
            }
        });
        Trial.test(30, "the rounds go by what is shallow", () -> {
            Scene s = Scene.rich();
            Trial.same(s.reachByRounds(1, s.t), 5);
            Trial.same(s.reachByRounds(0, s.t), 7);
            Trial.same(s.reachByRounds(0, s.c), 1);
        });
    }
}
