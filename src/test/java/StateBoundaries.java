import java.util.function.Consumer;

/** Acts undone, what can be looked at, the image: promises 38 to 44. */
final class StateBoundaries {
    private static final int NONE = LabelStacks.NONE;

    private StateBoundaries() {
    }

    /** One act, what lies at hand changed behind it, and the act undone. */
    private static void undoes(Sentences s, String what, Consumer<LabelStacks> act) {
        LabelStacks x = Nets.busy();
        String before = Seen.world(x);
        int acts = x.look(9);
        act.accept(x);
        s.is(what + " is one act", x.look(9), acts + 1);
        int tape = x.look(10);
        int fault = x.fault(1);
        x.off(x.look(4));
        x.on(0);
        Due.labels(x, 205, 9, 129);
        x.depth(11);
        s.is(what + ", undone", x.undo(), acts);
        s.same(what + ", all as ahead of it", Seen.world(x), before);
        s.same(what + ", the stack and depth stay", Seen.hand(x), "stack [205, 9, 129], depth 11\n");
        s.is(what + ", far as ahead of it", x.far(1, 2), 7);
        s.is(what + ", the tape stays", x.look(10), tape);
        s.is(what + ", the fault stays", x.fault(1), fault);
    }

    private static void isNoAct(Sentences s, String what, Consumer<LabelStacks> call) {
        LabelStacks x = Nets.busy();
        int acts = x.look(9);
        call.accept(x);
        s.is(what + " is no act", x.look(9), acts);
    }

    // ---- what stands outside the terms and promises ----

    static void useFiveHundredTwelveCalls(Sentences s) {
        s.use("An object is used for at most 512 calls after it has been made; what later calls answer is free.");
        LabelStacks x = new LabelStacks();
        x.link(0, 1, 1);
        for (int call = 2; call < 512; call++) {
            s.is("call " + call, x.cost(0, 1 + call % 99), call == 2 ? 1 : 1 + (call - 1) % 99);
        }
        s.is("the last one", x.far(0, 1), 1 + 511 % 99);
        LabelStacks y = new LabelStacks();
        y.image(true);
        for (int call = 2; call <= 512; call++) {
            s.is("call " + call, call % 2 == 0 ? y.nodes(10) : y.image(false), true);
        }
    }

    static void constantNone(Sentences s) {
        s.constant("`NONE = -1`: None.");
        s.is("NONE", LabelStacks.NONE, -1);
    }

    // ---- the terms ----

    static void termActs(Sentences s) {
        s.term("ACTS that can be UNDONE (the latest 6): nodes(), link(), state(), cost(), bind(), unbind(), demand(), "
            + "keep() of a new one, text(), as far as they are not refused: NODES, LINKS, BINDINGS, DEMANDS, KEPT WAYS, THE WAY "
            + "are as ahead of it (THE STACK, DEPTH stay).");
        undoes(s, "nodes()", x -> x.nodes(4));
        undoes(s, "nodes() of fewer", x -> x.nodes(2));
        undoes(s, "link()", x -> x.link(1, 2, 1));
        undoes(s, "state(), down", x -> x.state(4, false));
        undoes(s, "state(), up", x -> x.state(5, true));
        undoes(s, "state() of one that is so", x -> x.state(0, true));
        undoes(s, "cost()", x -> x.cost(4, 1));
        undoes(s, "cost() of one that is so", x -> x.cost(4, 5));
        undoes(s, "bind()", x -> x.bind(0, 0));
        undoes(s, "bind() in another's place", x -> x.bind(2, 3));
        undoes(s, "unbind()", x -> x.unbind(2));
        undoes(s, "demand()", x -> x.demand(0, 0, 1));
        undoes(s, "demand() in another's place", x -> x.demand(5, 3, 99));
        undoes(s, "keep() of a new one", x -> x.keep());
        undoes(s, "text()", x -> {
            x.end(0);
            Due.feedAll(x, "nodes 9;link 0 8 1;bind 2 at 8:n0;");
            x.text();
        });
    }

    static void termActsLatestSix(Sentences s) {
        s.term("(the latest 6)");
        LabelStacks x = new LabelStacks();
        for (int i = 1; i <= 8; i++) {
            x.link(0, 1, i);
            s.is("acts", x.look(9), Math.min(6, i));
        }
        for (int left = 5; left >= 0; left--) {
            s.is("undone", x.undo(), left);
            s.is("links", x.look(1), 2 + left);
        }
        s.is("the first two can't be", x.undo(), NONE);
        s.is("links", x.look(1), 2);
        for (int i = 1; i <= 7; i++) {
            x.cost(0, 10 + i);
        }
        s.is("six again", x.look(9), 6);
        x.undo();
        s.is("the latest first", x.linkOf(0, 2), 16);
    }

    static void termNoActs(Sentences s) {
        s.term("keep() of a new one, text(), as far as they are not refused:");
        isNoAct(s, "keep() of a like one", x -> {
            x.take(0);
            x.keep();
        });
        isNoAct(s, "keep() of an empty one", x -> {
            x.off(3);
            x.keep();
        });
        isNoAct(s, "text() with a fault", x -> x.text());
        isNoAct(s, "nodes() refused", x -> x.nodes(11));
        isNoAct(s, "link() refused", x -> x.link(0, 0, 1));
        isNoAct(s, "state() refused", x -> x.state(6, true));
        isNoAct(s, "cost() refused", x -> x.cost(0, 0));
        isNoAct(s, "bind() refused", x -> x.bind(6, 0));
        isNoAct(s, "unbind() refused", x -> x.unbind(0));
        isNoAct(s, "demand() refused", x -> x.demand(0, 0, 0));
        isNoAct(s, "depth()", x -> x.depth(1));
        isNoAct(s, "on() and off()", x -> {
            x.on(0);
            x.off(1);
        });
        isNoAct(s, "label() and pop()", x -> {
            x.label(0);
            x.pop(1);
        });
        isNoAct(s, "write()", x -> x.write());
        isNoAct(s, "course()", x -> x.course(0));
        isNoAct(s, "repair()", x -> x.repair(0, 3));
        isNoAct(s, "stays()", x -> x.stays(0, 1));
        isNoAct(s, "guards()", x -> x.guards(0));
        isNoAct(s, "writable()", x -> x.writable(0, 3, 6, 12));
        isNoAct(s, "take()", x -> x.take(0));
        isNoAct(s, "feed() and end()", x -> {
            x.feed(0, 0, 0, 0, 0);
            x.end(0);
        });
        isNoAct(s, "image(true)", x -> x.image(true));
    }

    static void termImage(Sentences s) {
        s.term("THE IMAGE: all that is and was told but THE TAPE, fault(), ACTS, as it was when it was taken; "
            + "gone back to it may be more than once (no ACTS are left then).");
        LabelStacks x = Nets.busy();
        String then = Seen.world(x) + Seen.hand(x);
        x.image(true);
        s.same("taking it changes nothing", Seen.world(x) + Seen.hand(x), then);
        for (int turn = 0; turn < 3; turn++) {
            x.end(0);
            Due.feedAll(x, "nodes 9;link 0 8 1;");
            x.text();
            Due.feedAll(x, "nodes 12;");
            x.text();
            Due.feedAll(x, "more");
            Due.labels(x, 9, 9, 9, 9);
            x.bind(0, 8);
            x.demand(0, 8, 1);
            x.on(0);
            x.keep();
            x.depth(12);
            s.is("gone back to", x.image(false), true);
            s.same("all as it was", Seen.world(x) + Seen.hand(x), then);
            s.same("but the tape, the fault and acts", Seen.rest(x), "tape 4, fault 2 at 6, acts 0\n");
            s.is("far as it was", x.far(1, 2), 7);
            s.is("nothing can be undone", x.undo(), NONE);
        }
        x.image(false);
        s.same("twice at once", Seen.world(x) + Seen.hand(x), then);
    }

    // ---- promise 38 ----

    static void undoLatest(Sentences s) {
        s.of(38, "The latest ACT is UNDONE: how many are left.");
        LabelStacks x = Due.told(Nets.DIAMOND);
        x.cost(0, 7);
        x.state(1, false);
        s.is("the latest", x.undo(), 2);
        s.is("up again", x.linkOf(1, 3), 1);
        s.is("the one ahead stays", x.linkOf(0, 2), 7);
        s.is("the one ahead", x.undo(), 1);
        s.is("its cost", x.linkOf(0, 2), 1);
        s.is("an act in between", x.cost(0, 9), 1);
        s.is("is the latest", x.undo(), 1);
        s.is("the first", x.undo(), 0);
        s.is("two nodes", x.look(0), 2);
        s.is("no links", x.look(1), 0);
    }

    static void undoNone(Sentences s) {
        s.of(38, "NONE if there is none.");
        LabelStacks x = new LabelStacks();
        s.none("a new one", x, y -> y.undo());
        x.nodes(3);
        x.undo();
        s.none("undone already", x, y -> y.undo());
        LabelStacks z = Nets.busy();
        z.image(true);
        z.image(false);
        s.none("gone back to the image", z, y -> y.undo());
        for (int i = 0; i < 7; i++) {
            z.cost(0, 20 + i);
        }
        for (int i = 0; i < 6; i++) {
            z.undo();
        }
        s.none("six undone", z, y -> y.undo());
        s.is("the first of seven stays", z.linkOf(0, 2), 20);
    }

    // ---- promise 39 ----

    static void atPlace(Sentences s) {
        s.of(39, "The i-th LINK of THE WAY (what 0), LABEL of THE STACK (1).");
        LabelStacks x = Due.told(Nets.RING);
        Nets.toAndFro(x, 16);
        Due.labels(x, 0, 1, 2, 3, 4, 5, 6, 7, 8, 9, 129, 205);
        for (int i = 0; i < 16; i++) {
            s.is("link " + i, x.at(i, 0), i % 2);
        }
        for (int i = 0; i < 12; i++) {
            s.is("label " + i, x.at(i, 1), i < 10 ? i : i == 10 ? 129 : 205);
        }
        s.is("no 13th label", x.at(12, 1), NONE);
        s.is("no 17th link", x.at(16, 0), NONE);
    }

    static void atNone(Sentences s) {
        s.of(39, "NONE if there is none such, or another what.");
        LabelStacks x = Nets.busy();
        s.none("link -1", x, y -> y.at(-1, 0));
        s.none("as many links as there are", x, y -> y.at(3, 0));
        s.none("label -1", x, y -> y.at(-1, 1));
        s.none("as many labels as there are", x, y -> y.at(2, 1));
        s.none("what -1", x, y -> y.at(0, -1));
        s.none("what 2", x, y -> y.at(0, 2));
        for (int wild : Nets.WILD) {
            s.is("link " + wild, x.at(wild, 0), NONE);
            s.is("label " + wild, x.at(wild, 1), NONE);
            s.is("what " + wild, x.at(0, wild), NONE);
        }
        x.off(1);
        x.pop(1);
        s.none("a link that went", x, y -> y.at(2, 0));
        s.none("a label that went", x, y -> y.at(1, 1));
        LabelStacks z = new LabelStacks();
        s.none("an empty way", z, y -> y.at(0, 0));
        s.none("an empty stack", z, y -> y.at(0, 1));
    }

    // ---- promise 40 ----

    static void linkOfWhat(Sentences s) {
        s.of(40, "Of a LINK what 0 from, 1 to, 2 COST, 3 whether it is UP (1, 0).");
        LabelStacks x = Nets.busy();
        int[][] due = {{0, 1, 1, 1}, {1, 3, 1, 1}, {0, 2, 1, 1}, {2, 3, 1, 1}, {3, 0, 5, 1}, {1, 0, 7, 0}};
        for (int l = 0; l < 6; l++) {
            for (int what = 0; what < 4; what++) {
                s.is("linkOf(" + l + ", " + what + ")", x.linkOf(l, what), due[l][what]);
            }
        }
        LabelStacks y = new LabelStacks();
        for (int i = 0; i < 30; i++) {
            y.link(1, 0, 70 + i);
        }
        s.is("the last of thirty", y.linkOf(29, 2), 99);
        s.is("up", y.linkOf(29, 3), 1);
    }

    static void linkOfNone(Sentences s) {
        s.of(40, "NONE if there is none such, or another what.");
        LabelStacks x = Nets.busy();
        for (int what = 0; what < 4; what++) {
            int which = what;
            s.none("link -1, " + what, x, y -> y.linkOf(-1, which));
            s.none("link m, " + what, x, y -> y.linkOf(6, which));
        }
        s.none("link 30", x, y -> y.linkOf(30, 3));
        s.none("what -1", x, y -> y.linkOf(0, -1));
        s.none("what 4", x, y -> y.linkOf(0, 4));
        for (int wild : Nets.WILD) {
            s.is("link " + wild, x.linkOf(wild, 0), NONE);
            s.is("what " + wild, x.linkOf(0, wild), NONE);
        }
        x.link(0, 3, 9);
        x.undo();
        s.none("one that was undone", x, y -> y.linkOf(6, 2));
    }

    // ---- promise 41 ----

    static void bindingWhat(Sentences s) {
        s.of(41, "Of a BINDING what 0 its NODE, 1 how many LABELS, 10 and i its i-th LABEL.");
        LabelStacks x = Due.told(Nets.DIAMOND + "bind 0 at 0:n9;bind 5 at 3:l29 n0 l0 n9 l1 n3;");
        s.is("node 0", x.binding(0, 0), 0);
        s.is("one label", x.binding(0, 1), 1);
        s.is("it", x.binding(0, 10), 9);
        s.is("node 3", x.binding(5, 0), 3);
        s.is("six labels", x.binding(5, 1), 6);
        int[] row = {129, 0, 100, 9, 101, 3};
        for (int i = 0; i < 6; i++) {
            s.is("label " + i, x.binding(5, 10 + i), row[i]);
        }
    }

    static void bindingNone(Sentences s) {
        s.of(41, "NONE if there is none (such), or another what.");
        LabelStacks x = Nets.busy();
        for (int what : new int[] {0, 1, 10}) {
            s.none("none at first, " + what, x, y -> y.binding(0, what));
            s.none("-1, " + what, x, y -> y.binding(-1, what));
            s.none("6, " + what, x, y -> y.binding(6, what));
        }
        for (int what : new int[] {-1, 2, 3, 9, 12, 15, 16, 20}) {
            s.none("what " + what, x, y -> y.binding(2, what));
        }
        for (int wild : Nets.WILD) {
            s.is("binding " + wild, x.binding(wild, 0), NONE);
            s.is("what " + wild, x.binding(2, wild), NONE);
        }
        // What is 10 less than these would wrap around to a label's place.
        s.is("what near the least int", x.binding(2, Integer.MIN_VALUE + 9), NONE);
        x.unbind(2);
        s.none("none any more", x, y -> y.binding(2, 0));
        s.none("none any more, its labels", x, y -> y.binding(2, 10));
    }

    // ---- promise 42 ----

    static void demandOfWhat(Sentences s) {
        s.of(42, "Of a DEMAND what 0 its NODE, 1 VOLUME, 2 how many LABELS, 3 where it ends (as ends()).");
        LabelStacks x = Due.told(Nets.DIAMOND);
        x.demand(0, 3, 1);
        Due.labels(x, 3, 9);
        x.demand(7, 0, 99);
        int[][] due = {{3, 1, 0, 3}, {0, 99, 2, -3}};
        for (int what = 0; what < 4; what++) {
            s.is("demandOf(0, " + what + ")", x.demandOf(0, what), due[0][what]);
            s.is("demandOf(7, " + what + ")", x.demandOf(7, what), due[1][what]);
        }
        s.is("as ends()", x.ends(0), x.demandOf(7, 3));
        Due.labels(x, 0);
        x.demand(1, 3, 5);
        x.state(4, false);
        s.is("as all is now", x.demandOf(1, 3), -2);
    }

    static void demandOfNone(Sentences s) {
        s.of(42, "NONE if there is none (such), or another what.");
        LabelStacks x = Nets.busy();
        for (int what = 0; what < 4; what++) {
            int which = what;
            s.none("none at first, " + what, x, y -> y.demandOf(0, which));
            s.none("-1, " + what, x, y -> y.demandOf(-1, which));
            s.none("8, " + what, x, y -> y.demandOf(8, which));
        }
        s.none("what -1", x, y -> y.demandOf(5, -1));
        s.none("what 4", x, y -> y.demandOf(5, 4));
        for (int wild : Nets.WILD) {
            s.is("demand " + wild, x.demandOf(wild, 0), NONE);
            s.is("what " + wild, x.demandOf(5, wild), NONE);
        }
        x.nodes(4);
        s.none("none any more", x, y -> y.demandOf(5, 0));
    }

    // ---- promise 43 ----

    static void imageTakenAndBack(Sentences s) {
        s.of(43, "THE IMAGE is taken (true), or gone back to (false): true;");
        LabelStacks x = new LabelStacks();
        s.is("taken of a new one", x.image(true), true);
        x.nodes(10);
        x.link(0, 9, 1);
        x.label(9);
        x.on(0);
        x.depth(1);
        s.is("gone back to", x.image(false), true);
        s.same("a new one", Seen.all(x), Seen.all(new LabelStacks()));
        x.depth(7);
        s.is("taken again", x.image(true), true);
        x.depth(8);
        s.is("gone back to", x.image(false), true);
        s.is("the later one", x.look(3), 7);
        LabelStacks y = Nets.busy();
        int acts = y.look(9);
        y.image(true);
        s.is("taking it leaves acts", y.look(9), acts);
        s.is("which can be undone", y.undo(), acts - 1);
        y.nodes(2);
        y.undo();
        y.image(false);
        s.is("undoing leaves the image", y.look(8), 1);
        s.is("an act behind it", y.link(0, 3, 4), 6);
        s.is("is the only one", y.undo(), 0);
        s.is("the image again", y.image(false), true);
    }

    static void imageNone(Sentences s) {
        s.of(43, "false if there is none.");
        LabelStacks x = new LabelStacks();
        s.not("a new one", x, y -> y.image(false));
        LabelStacks z = Nets.busy();
        s.not("none taken", z, y -> y.image(false));
        s.is("acts can still be undone", z.undo(), 2);
        LabelStacks w = new LabelStacks();
        w.image(true);
        s.not("another object's", x, y -> y.image(false));
    }

    // ---- promise 44 ----

    static void lookWhat(Sentences s) {
        s.of(44, "What 0 n, 1 LINKS, 2 UP ones (a set), 3 DEPTH, 4 LINKS of THE WAY, 5 LABELS of THE STACK, 6 BINDINGS (a set), "
            + "7 DEMANDS (a set), 8 KEPT WAYS, 9 ACTS that can be UNDONE, 10 bytes of THE TAPE, 11 COSTS of THE WAY together, "
            + "12 the NODE where THE WAY begins (NONE), 13 where it ends (NONE).");
        LabelStacks x = new LabelStacks();
        int[] first = {2, 0, 0, 5, 0, 0, 0, 0, 0, 0, 0, 0, NONE, NONE};
        LabelStacks busy = Nets.busy();
        int[] then = {4, 6, 31, 4, 3, 2, 4, 32, 1, 3, 9, 7, 0, 0};
        for (int what = 0; what < 14; what++) {
            s.is("of a new one, " + what, x.look(what), first[what]);
            s.is("of a busy one, " + what, busy.look(what), then[what]);
        }
        busy.off(1);
        s.is("costs", busy.look(11), 2);
        s.is("begins", busy.look(12), 0);
        s.is("ends", busy.look(13), 3);
        busy.off(2);
        s.is("an empty way costs nothing", busy.look(11), 0);
        s.is("begins nowhere", busy.look(12), NONE);
        s.is("ends nowhere", busy.look(13), NONE);
        LabelStacks y = Due.told("nodes 2;link 0 1 99;link 1 0 99 down;");
        Nets.toAndFro(y, 16);
        s.is("the most costs, down ones too", y.look(11), 16 * 99);
        y.cost(0, 1);
        s.is("as costs are now", y.look(11), 8 + 8 * 99);
    }

    static void lookFull(Sentences s) {
        s.of(44, "2 UP ones (a set), 3 DEPTH, 4 LINKS of THE WAY, 5 LABELS of THE STACK, 6 BINDINGS (a set), "
            + "7 DEMANDS (a set), 8 KEPT WAYS,");
        LabelStacks x = new LabelStacks();
        x.nodes(10);
        for (int i = 0; i < 30; i++) {
            x.link(i % 2 == 0 ? 0 : 9, i % 2 == 0 ? 9 : 0, 1);
        }
        x.label(9);
        for (int b = 0; b < 6; b++) {
            x.bind(b, 0);
        }
        for (int d = 0; d < 8; d++) {
            x.demand(d, 0, 1);
        }
        for (int i = 1; i < 12; i++) {
            x.label(0);
        }
        for (int i = 5; i <= 16; i++) {
            Nets.toAndFro(x, i);
            x.keep();
        }
        x.depth(12);
        for (int i = 0; i < 25; i++) {
            x.feed(0, 0, 0, 0, 0);
        }
        int[] full = {10, 30, 0x3FFFFFFF, 12, 16, 12, 63, 255, 12, 6, 500, 16, 0, 0};
        for (int what = 0; what < 14; what++) {
            s.is("of a full one, " + what, x.look(what), full[what]);
        }
        x.state(29, false);
        s.is("the highest one down", x.look(2), 0x1FFFFFFF);
    }

    static void lookNone(Sentences s) {
        s.of(44, "NONE for another what.");
        LabelStacks x = Nets.busy();
        s.none("-1", x, y -> y.look(-1));
        s.none("14", x, y -> y.look(14));
        for (int wild : Nets.WILD) {
            s.is("look(" + wild + ")", x.look(wild), NONE);
        }
    }
}
