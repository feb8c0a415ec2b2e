/** Nodes, links, bindings, depth and shortest ways: promises 1 to 8 and 17 to 19. */
final class NetworkBoundaries {
    private static final int NONE = LabelStacks.NONE;

    private NetworkBoundaries() {
    }

    // ---- the terms ----

    static void termNodes(Sentences s) {
        s.term("NODES 0 .. n less 1 (n 2 .. 10; 2 at first).");
        LabelStacks x = new LabelStacks();
        s.is("two at first", x.look(0), 2);
        s.is("node 1 is", x.far(1, 1), 0);
        s.is("node 2 isn't", x.far(2, 2), NONE);
        for (int n = 2; n <= 10; n++) {
            s.is("nodes(" + n + ")", x.nodes(n), true);
            s.is("so many", x.look(0), n);
            s.is("node 0 is", x.far(0, 0), 0);
            s.is("the last one is", x.far(n - 1, n - 1), 0);
            s.is("none behind it", x.far(n, n), NONE);
            s.is("none ahead of 0", x.far(-1, -1), NONE);
        }
    }

    static void termLinks(Sentences s) {
        s.term("LINKS 0 .. m less 1 (30 at most; none at first):");
        LabelStacks x = new LabelStacks();
        s.is("none at first", x.look(1), 0);
        s.is("link 0 isn't", x.linkOf(0, 0), NONE);
        for (int l = 0; l < 30; l++) {
            s.is("its number", x.link(l % 2, 1 - l % 2, 1 + l), l);
            s.is("it is", x.linkOf(l, 2), 1 + l);
            s.is("none behind it", x.linkOf(l + 1, 2), NONE);
        }
        s.is("30 at most", x.link(0, 1, 1), NONE);
        s.is("30", x.look(1), 30);
    }

    static void termLinkBetweenTwo(Sentences s) {
        s.term("each from a NODE to another one,");
        LabelStacks x = new LabelStacks();
        for (int u = 0; u < 2; u++) {
            s.is("from a node to itself", x.link(u, u, 1), NONE);
            s.is("to another one", x.link(u, 1 - u, 1), u);
            s.is("from", x.linkOf(u, 0), u);
            s.is("to", x.linkOf(u, 1), 1 - u);
        }
    }

    static void termCost(Sentences s) {
        s.term("with a COST 1 .. 99,");
        LabelStacks x = new LabelStacks();
        s.is("0", x.link(0, 1, 0), NONE);
        s.is("100", x.link(0, 1, 100), NONE);
        s.is("1", x.link(0, 1, 1), 0);
        s.is("it costs 1", x.far(0, 1), 1);
        s.is("99", x.link(1, 0, 99), 1);
        s.is("it costs 99", x.far(1, 0), 99);
    }

    static void termUpAtFirst(Sentences s) {
        s.term("UP (at first) or DOWN;");
        LabelStacks x = new LabelStacks();
        x.link(0, 1, 1);
        s.is("up", x.linkOf(0, 3), 1);
        s.is("up, of the set", x.look(2), 1);
        x.state(0, false);
        s.is("down", x.linkOf(0, 3), 0);
        s.is("down, of the set", x.look(2), 0);
    }

    static void termAlikeLinks(Sentences s) {
        s.term("alike ones may be.");
        LabelStacks x = new LabelStacks();
        s.is("one", x.link(0, 1, 5), 0);
        s.is("one alike", x.link(0, 1, 5), 1);
        s.is("two of them", x.paths(0, 1), 2);
    }

    static void termFar(Sentences s) {
        s.term("FAR of u, v: the least sum of COSTS of UP LINKS by which one comes from u to v (0 for like ones), or none.");
        LabelStacks x = Due.told("nodes 3;link 0 2 9;link 0 1 4;link 1 2 4;link 2 0 1 down;");
        s.is("the least sum", x.far(0, 2), 8);
        s.is("like ones, without a link to it", x.far(1, 1), 0);
        s.is("none: by a down one alone", x.far(2, 0), NONE);
        x.state(1, false);
        s.is("of up ones", x.far(0, 2), 9);
        x.state(0, false);
        s.is("none", x.far(0, 2), NONE);
        LabelStacks z = Due.told("nodes 5;link 0 1 9;link 0 2 1;link 2 3 1;link 3 1 1;link 1 4 1;link 2 4 9;");
        s.is("by more links that cost less", z.far(0, 1), 3);
        s.is("and on from there", z.far(0, 4), 4);
        LabelStacks y = Nets.longChain(99);
        s.is("the farthest that can be", y.far(0, 9), 891);
        s.is("not the other way", y.far(9, 0), NONE);
    }

    static void termOn(Sentences s) {
        s.term("ON from u to v (unlike, FAR is): the UP LINKS from u whose COST and FAR from their end to v "
            + "together are FAR of u, v.");
        LabelStacks x = Due.told("nodes 3;link 0 2 2;link 0 1 1;link 1 2 1;link 0 1 2;link 0 2 2 down;link 0 2 3;link 1 0 1;");
        s.is("two of five", x.next(0, 2), 3);
        s.is("not back by 0, which costs more", x.next(1, 2), 4);
        s.is("like ones, though one could come back", x.next(0, 0), 0);
        s.is("no far", x.next(2, 0), 0);
        x.state(4, true);
        s.is("an up one more", x.next(0, 2), 19);
    }

    static void termPaths(Sentences s) {
        s.term("PATHS of u, v: how many rows of LINKS lead from u to v, each ON to v where it begins "
            + "(1 for like ones; 0 without FAR).");
        LabelStacks x = Due.told("nodes 4;link 0 1 1;link 0 1 1;link 1 2 1;link 1 2 1;link 0 2 2;link 0 2 3;");
        s.is("two times two and one", x.paths(0, 2), 5);
        s.is("like ones", x.paths(1, 1), 1);
        s.is("like ones without links", x.paths(3, 3), 1);
        s.is("without far", x.paths(2, 0), 0);
        s.is("without far", x.paths(0, 3), 0);
        // To 4 by 1 straight, by 2 and 1, by 3, 2 and 1, and by 3 and 1: all cost 4.
        LabelStacks z = Due.told("nodes 5;link 0 1 3;link 0 2 2;link 0 3 1;link 3 2 1;link 3 1 2;link 2 1 1;link 1 4 1;");
        s.is("of unlike lengths", z.paths(0, 4), 4);
        LabelStacks v = Due.told("nodes 5;link 4 3 3;link 4 2 2;link 4 1 1;link 1 2 1;link 1 3 2;link 2 3 1;link 3 0 1;");
        s.is("of unlike lengths, numbered the other way", v.paths(4, 0), 4);
        LabelStacks y = new LabelStacks();
        y.nodes(10);
        for (int i = 0; i < 30; i++) {
            int u = i < 12 ? i / 4 : 3 + (i - 12) / 3;
            y.link(u, u + 1, 99);
        }
        // Three stages of four links and six of three, all thirty.
        s.is("very many", y.paths(0, 9), 4 * 4 * 4 * 729);
    }

    static void termSole(Sentences s) {
        s.term("SOLE: PATHS are 1.");
        LabelStacks x = Due.told("nodes 3;link 0 1 1;link 1 2 1;link 0 2 3;");
        Due.labels(x, 2);
        s.is("one path", x.paths(0, 2), 1);
        s.is("is sole", x.exact(0), 1);
        x.cost(2, 2);
        s.is("two paths", x.paths(0, 2), 2);
        s.is("are not", x.exact(0), 0);
    }

    static void termLabels(Sentences s) {
        s.term("LABELS, as numbers: v: NODE v (0 .. 9); 100 and l: LINK l (l 0 .. 29); 200 and b: BINDING b (b 0 .. 5).");
        int[][] ranges = {{0, 9}, {100, 129}, {200, 205}};
        for (int[] range : ranges) {
            LabelStacks x = new LabelStacks();
            s.is("one below " + range[0], x.label(range[0] - 1), NONE);
            s.is("label " + range[0], x.label(range[0]), 1);
            s.is("label " + range[1], x.label(range[1]), 2);
            s.is("one above " + range[1], x.label(range[1] + 1), NONE);
        }
        LabelStacks y = Due.told(Nets.RING + "bind 5 at 0:n1;");
        Due.labels(y, 1, 101, 205);
        s.is("a node, a link, a binding", y.ends(0), 1);
    }

    static void termBindings(Sentences s) {
        s.term("BINDINGS 0 .. 5: held at a NODE, with 1 .. 6 LABELS of NODES and LINKS; or none (at first).");
        LabelStacks x = Due.told(Nets.RING);
        s.is("none at first", x.look(6), 0);
        for (int b = 0; b < 6; b++) {
            s.is("none yet", x.binding(b, 0), NONE);
            x.label(b % 2 == 0 ? 9 : 129);
            s.is("with " + (b + 1) + " labels", x.bind(b, 1), true);
            s.is("held at", x.binding(b, 0), 1);
            s.is("how many", x.binding(b, 1), b + 1);
            s.is("the last one", x.binding(b, 10 + b), b % 2 == 0 ? 9 : 129);
        }
        s.is("all six", x.look(6), 63);
        s.is("there is no seventh", x.bind(6, 1), false);
    }

    static void termDepth(Sentences s) {
        s.term("DEPTH (5 at first; 1 .. 12).");
        LabelStacks x = new LabelStacks();
        s.is("5 at first", x.look(3), 5);
        for (int d = 1; d <= 12; d++) {
            s.is("depth(" + d + ")", x.depth(d), true);
            s.is("it is", x.look(3), d);
        }
        s.is("depth(13)", x.depth(13), false);
        s.is("depth(0)", x.depth(0), false);
    }

    static void termNodesAsText(Sentences s) {
        s.term("nodes() does as a TEXT without LINKS.");
        LabelStacks x = Nets.busy();
        LabelStacks y = Nets.busy();
        y.end(0);
        Due.feedAll(y, "nodes 7;");
        y.text();
        s.is("nodes(7)", x.nodes(7), true);
        s.same("the same is left", Seen.world(x) + Seen.hand(x), Seen.world(y) + Seen.hand(y));
        s.same("nothing", Seen.world(x), "nodes 7, up 0\nway []\n");
        s.same("but the stack and depth", Seen.hand(x), "stack [1, 3], depth 4\n");
        s.is("the tape is not text()'s here", x.look(10), 9);
        s.is("nor is the fault", x.fault(1), 6);
        s.is("take(0)", x.take(0), NONE);
        s.is("link 0", x.linkOf(0, 0), NONE);
        s.is("binding 2", x.binding(2, 0), NONE);
        s.is("demand 5", x.demandOf(5, 0), NONE);
        s.is("heaviest()", x.heaviest(), NONE);
        s.is("a packet", x.ends(0), -2);
    }

    // ---- promise 1 ----

    static void newObject(Sentences s) {
        s.of(1, "Two NODES, no LINKS.");
        LabelStacks x = new LabelStacks();
        s.same("nothing else", Seen.all(x),
            "nodes 2, up 0\nway []\nstack [], depth 5\ntape 0, fault 0 at -1, acts 0\n");
        s.is("no links", x.look(1), 0);
        s.is("no way from one to the other", x.far(0, 1), NONE);
        s.is("none to go along", x.on(0), NONE);
        s.is("no image", x.image(false), false);
        s.is("no act", x.undo(), NONE);
        s.is("NONE", LabelStacks.NONE, -1);
        LabelStacks y = Nets.busy();
        s.is("objects are for themselves", new LabelStacks().look(1), 0);
        s.is("the other one too", y.look(1), 6);
    }

    // ---- promise 2 ----

    static void nodesThatCanBe(Sentences s) {
        s.of(2, "n NODES: true;");
        for (int n : new int[] {2, 10}) {
            LabelStacks x = Nets.busy();
            s.is("nodes(" + n + ")", x.nodes(n), true);
            s.is("so many", x.look(0), n);
            s.is("from the first to the last", x.link(0, n - 1, 1), 0);
            s.is("to the one behind", x.link(0, n, 1), NONE);
        }
        LabelStacks y = Nets.busy();
        s.is("as many as there are", y.nodes(4), true);
        s.is("links are gone all the same", y.look(1), 0);
    }

    static void nodesThatCantBe(Sentences s) {
        s.of(2, "false if there can't be so many.");
        LabelStacks x = Nets.busy();
        s.not("1", x, y -> y.nodes(1));
        s.not("11", x, y -> y.nodes(11));
        s.not("0", x, y -> y.nodes(0));
        s.not("-1", x, y -> y.nodes(-1));
        for (int n : Nets.WILD) {
            s.is("nodes(" + n + ")", x.nodes(n), false);
        }
        s.is("four are left", x.look(0), 4);
    }

    // ---- promise 3 ----

    static void linkMore(Sentences s) {
        s.of(3, "A LINK more: its number.");
        LabelStacks x = new LabelStacks();
        x.nodes(10);
        s.is("the first", x.link(0, 9, 99), 0);
        s.is("the next", x.link(9, 0, 1), 1);
        s.is("from", x.linkOf(1, 0), 9);
        s.is("to", x.linkOf(1, 1), 0);
        s.is("cost", x.linkOf(1, 2), 1);
        s.is("far heeds it", x.far(9, 0), 1);
        s.is("the first stays", x.linkOf(0, 2), 99);
        x.undo();
        s.is("the number of one that is undone", x.link(3, 4, 5), 1);
    }

    static void linkThatCantBe(Sentences s) {
        s.of(3, "NONE if it can't be,");
        LabelStacks x = Nets.busy();
        s.none("from -1", x, y -> y.link(-1, 1, 1));
        s.none("from n", x, y -> y.link(4, 1, 1));
        s.none("to -1", x, y -> y.link(1, -1, 1));
        s.none("to n", x, y -> y.link(1, 4, 1));
        s.none("like ones", x, y -> y.link(3, 3, 1));
        s.none("cost 0", x, y -> y.link(0, 1, 0));
        s.none("cost 100", x, y -> y.link(0, 1, 100));
        s.none("cost -1", x, y -> y.link(0, 1, -1));
        for (int wild : Nets.WILD) {
            s.is("from " + wild, x.link(wild, 1, 1), NONE);
            s.is("to " + wild, x.link(1, wild, 1), NONE);
            s.is("cost " + wild, x.link(0, 1, wild), NONE);
        }
        s.is("no link more", x.look(1), 6);
    }

    static void linkThirty(Sentences s) {
        s.of(3, "or there are 30.");
        LabelStacks x = new LabelStacks();
        for (int i = 0; i < 29; i++) {
            x.link(0, 1, 2);
        }
        s.is("the thirtieth", x.link(1, 0, 3), 29);
        s.none("a 31st", x, y -> y.link(0, 1, 1));
        s.is("30", x.look(1), 30);
        s.is("all of them up", x.look(2), 0x3FFFFFFF);
        s.is("its far is not the refused one's", x.far(0, 1), 2);
        x.undo();
        s.is("one more when one is undone", x.link(0, 1, 1), 29);
    }

    // ---- promise 4 ----

    static void stateWasAndIs(Sentences s) {
        s.of(4, "A LINK is UP, or DOWN: whether it was (1, 0).");
        LabelStacks x = new LabelStacks();
        for (int i = 0; i < 30; i++) {
            x.link(0, 1, 1);
        }
        s.is("the first, up till now", x.state(0, false), 1);
        s.is("the last, up till now", x.state(29, false), 1);
        s.is("the others", x.look(2), 0x1FFFFFFE);
        s.is("down, and again", x.state(29, false), 0);
        s.is("nothing else changes", x.look(2), 0x1FFFFFFE);
        s.is("down, now up", x.state(29, true), 0);
        s.is("up, and again", x.state(29, true), 1);
        s.is("the set", x.look(2), 0x3FFFFFFE);
        s.is("paths heed it", x.paths(0, 1), 29);
    }

    static void stateOfNone(Sentences s) {
        s.of(4, "NONE if there is none such.");
        LabelStacks x = Nets.busy();
        s.none("-1", x, y -> y.state(-1, false));
        s.none("m", x, y -> y.state(6, false));
        s.none("m, up", x, y -> y.state(6, true));
        for (int wild : Nets.WILD) {
            s.is("link " + wild, x.state(wild, false), NONE);
        }
        s.is("one beyond an int's bits", x.state(32, false), NONE);
        s.is("none is down but one", x.look(2), 31);
        LabelStacks z = new LabelStacks();
        s.none("none at all", z, y -> y.state(0, true));
    }

    // ---- promise 5 ----

    static void costWasAndIs(Sentences s) {
        s.of(5, "A COST: what it was.");
        LabelStacks x = Due.told(Nets.DIAMOND + "link 1 0 7 down;");
        s.is("1, now 99", x.cost(0, 99), 1);
        s.is("far heeds it", x.far(0, 1), 99);
        s.is("99, now 1", x.cost(0, 1), 99);
        s.is("1, and again", x.cost(0, 1), 1);
        s.is("the last one, which is down", x.cost(5, 8), 7);
        s.is("it stays down", x.linkOf(5, 3), 0);
        s.is("its cost", x.linkOf(5, 2), 8);
    }

    static void costThatCantBe(Sentences s) {
        s.of(5, "NONE if it can't be.");
        LabelStacks x = Nets.busy();
        s.none("cost 0", x, y -> y.cost(0, 0));
        s.none("cost 100", x, y -> y.cost(0, 100));
        s.none("cost -1", x, y -> y.cost(0, -1));
        s.none("link -1", x, y -> y.cost(-1, 1));
        s.none("link m", x, y -> y.cost(6, 1));
        for (int wild : Nets.WILD) {
            s.is("link " + wild, x.cost(wild, 1), NONE);
            s.is("cost " + wild, x.cost(0, wild), NONE);
        }
        s.is("it costs what it did", x.linkOf(0, 2), 1);
    }

    // ---- promise 6 ----

    static void bindsTheStack(Sentences s) {
        s.of(6, "A BINDING held at a NODE has THE STACK's LABELS: true;");
        LabelStacks x = Due.told(Nets.DIAMOND);
        Due.labels(x, 9);
        s.is("one label, of no node that is", x.bind(0, 0), true);
        Due.labels(x, 129, 0, 100, 9, 3, 104);
        s.is("six", x.bind(5, 3), true);
        s.same("both", Seen.world(x).replaceAll("(?s).*link 4[^\n]*\n", ""),
            "binding 0 at 0: 9\nbinding 5 at 3: 129 0 100 9 3 104\nway []\n");
        s.row("the stack stays", x, 1, 129, 0, 100, 9, 3, 104);
        x.pop(5);
        s.is("its labels are its own", x.binding(5, 1), 6);
        s.is("in another's place", x.bind(5, 1), true);
        s.is("held there", x.binding(5, 0), 1);
        s.is("its label", x.binding(5, 10), 104);
        s.is("the others are gone", x.binding(5, 11), NONE);
        s.is("in the place of the first", x.bind(0, 2), true);
        s.is("its label alone", x.binding(0, 1), 1);
        s.is("it", x.binding(0, 10), 104);
    }

    static void bindThatCantBe(Sentences s) {
        s.of(6, "false if one can't be,");
        LabelStacks x = Nets.busy();
        s.not("binding -1", x, y -> y.bind(-1, 0));
        s.not("binding 6", x, y -> y.bind(6, 0));
        s.not("node -1", x, y -> y.bind(2, -1));
        s.not("node n", x, y -> y.bind(2, 4));
        for (int wild : Nets.WILD) {
            s.is("binding " + wild, x.bind(wild, 0), false);
            s.is("node " + wild, x.bind(2, wild), false);
        }
        s.is("the one that is there stays", x.binding(2, 0), 1);
    }

    static void bindOfNothing(Sentences s) {
        s.of(6, "THE STACK has none,");
        LabelStacks x = Nets.busy();
        x.pop(2);
        s.not("in the place of one", x, y -> y.bind(2, 0));
        s.not("where none is", x, y -> y.bind(0, 0));
        s.is("none", x.binding(0, 0), NONE);
        x.label(3);
        s.is("one label is enough", x.bind(0, 0), true);
    }

    static void bindOfSeven(Sentences s) {
        s.of(6, "or more than 6,");
        LabelStacks x = Nets.busy();
        Due.labels(x, 1, 2, 3, 1, 2, 3, 1);
        s.not("seven", x, y -> y.bind(2, 0));
        Due.labels(x, 1, 2, 3, 1, 2, 3, 1, 2, 3, 1, 2, 3);
        s.not("twelve", x, y -> y.bind(0, 0));
        x.pop(6);
        s.is("six", x.bind(0, 0), true);
    }

    static void bindOfABinding(Sentences s) {
        s.of(6, "or one of a BINDING.");
        int[][] rows = {{200}, {205}, {205, 1}, {1, 200}, {100, 129, 9, 0, 3, 202}};
        for (int[] row : rows) {
            LabelStacks x = Nets.busy();
            Due.labels(x, row);
            s.not("a row of " + row.length, x, y -> y.bind(2, 0));
            s.not("a row of " + row.length, x, y -> y.bind(1, 0));
            x.pop(row.length);
            x.label(0);
            s.is("once it is gone", x.bind(1, 0), true);
        }
    }

    // ---- promise 7 ----

    static void unbinds(Sentences s) {
        s.of(7, "A BINDING is none any more: true;");
        LabelStacks x = Due.told(Nets.DIAMOND);
        Due.labels(x, 1, 3);
        x.bind(0, 0);
        x.bind(5, 0);
        s.is("the last", x.unbind(5), true);
        s.is("it is none", x.binding(5, 0), NONE);
        s.is("nor has it labels", x.binding(5, 1), NONE);
        s.is("not one", x.binding(5, 10), NONE);
        s.is("the other stays", x.look(6), 1);
        s.is("the first", x.unbind(0), true);
        s.is("none", x.look(6), 0);
        Due.labels(x, 200);
        s.is("a packet is dropped by it", x.ends(0), -2);
    }

    static void unbindOfNone(Sentences s) {
        s.of(7, "false if it is none, or there is none such.");
        LabelStacks x = Nets.busy();
        s.not("none at first", x, y -> y.unbind(0));
        s.not("-1", x, y -> y.unbind(-1));
        s.not("6", x, y -> y.unbind(6));
        for (int wild : Nets.WILD) {
            s.is("binding " + wild, x.unbind(wild), false);
        }
        x.unbind(2);
        s.not("none any more", x, y -> y.unbind(2));
    }

    // ---- promise 8 ----

    static void depthThatCanBe(Sentences s) {
        s.of(8, "DEPTH: true;");
        LabelStacks x = Nets.busy();
        int acts = x.look(9);
        s.is("12", x.depth(12), true);
        s.is("it", x.look(3), 12);
        s.is("1", x.depth(1), true);
        s.is("it", x.look(3), 1);
        s.is("1 again", x.depth(1), true);
        s.is("that is no act", x.look(9), acts);
    }

    static void depthThatCantBe(Sentences s) {
        s.of(8, "false if it can't be.");
        LabelStacks x = Nets.busy();
        s.not("0", x, y -> y.depth(0));
        s.not("13", x, y -> y.depth(13));
        s.not("-1", x, y -> y.depth(-1));
        for (int wild : Nets.WILD) {
            s.is("depth(" + wild + ")", x.depth(wild), false);
        }
        s.is("it stays", x.look(3), 4);
    }

    // ---- promises 17 to 19 ----

    static void far(Sentences s) {
        s.of(17, "FAR.");
        LabelStacks x = Due.told(Nets.DIAMOND);
        s.is("0 to 3", x.far(0, 3), 2);
        s.is("round", x.far(1, 2), 7);
        s.is("like ones", x.far(3, 3), 0);
        x.cost(4, 99);
        s.is("as costs are now", x.far(1, 2), 101);
        x.undo();
        s.is("as costs are again", x.far(1, 2), 7);
        x.image(true);
        x.state(4, false);
        s.is("as links are now", x.far(1, 2), NONE);
        x.image(false);
        s.is("as the image was", x.far(1, 2), 7);
    }

    static void farOfNone(Sentences s) {
        s.of(17, "NONE if there is none, or no such NODES.");
        LabelStacks x = Nets.busy();
        s.none("u -1", x, y -> y.far(-1, 0));
        s.none("u n", x, y -> y.far(4, 0));
        s.none("v -1", x, y -> y.far(0, -1));
        s.none("v n", x, y -> y.far(0, 4));
        s.none("like ones that are not", x, y -> y.far(4, 4));
        s.none("like ones that are not", x, y -> y.far(-1, -1));
        for (int wild : Nets.WILD) {
            s.is("u " + wild, x.far(wild, 0), NONE);
            s.is("v " + wild, x.far(0, wild), NONE);
        }
        x.state(4, false);
        s.none("there is none", x, y -> y.far(3, 0));
        s.is("like ones are near still", x.far(3, 3), 0);
    }

    static void paths(Sentences s) {
        s.of(18, "PATHS.");
        LabelStacks x = Due.told(Nets.DIAMOND);
        s.is("two", x.paths(0, 3), 2);
        s.is("one", x.paths(3, 1), 1);
        s.is("like ones", x.paths(3, 3), 1);
        x.state(4, false);
        s.is("without far", x.paths(3, 1), 0);
        LabelStacks y = new LabelStacks();
        for (int i = 0; i < 30; i++) {
            y.link(0, 1, 99);
        }
        s.is("thirty alike", y.paths(0, 1), 30);
    }

    static void pathsOfNone(Sentences s) {
        s.of(18, "NONE if there are no such NODES.");
        LabelStacks x = Nets.busy();
        s.none("u -1", x, y -> y.paths(-1, 0));
        s.none("u n", x, y -> y.paths(4, 0));
        s.none("v -1", x, y -> y.paths(0, -1));
        s.none("v n", x, y -> y.paths(0, 4));
        s.none("like ones that are not", x, y -> y.paths(4, 4));
        for (int wild : Nets.WILD) {
            s.is("u " + wild, x.paths(wild, 0), NONE);
            s.is("v " + wild, x.paths(0, wild), NONE);
        }
    }

    static void next(Sentences s) {
        s.of(19, "ON, as a set of LINKS.");
        LabelStacks x = new LabelStacks();
        for (int i = 0; i < 30; i++) {
            x.link(0, 1, i == 0 || i == 29 ? 1 : 2);
        }
        s.is("the lowest and the highest", x.next(0, 1), 1 + (1 << 29));
        x.state(0, false);
        s.is("the highest", x.next(0, 1), 1 << 29);
        x.state(29, false);
        s.is("all but these", x.next(0, 1), 0x1FFFFFFE);
    }

    static void nextOfNone(Sentences s) {
        s.of(19, "0 if there are none (such).");
        LabelStacks x = Nets.busy();
        s.refuses("u -1", x, 0, y -> y.next(-1, 0));
        s.refuses("u n", x, 0, y -> y.next(4, 0));
        s.refuses("v -1", x, 0, y -> y.next(0, -1));
        s.refuses("v n", x, 0, y -> y.next(0, 4));
        s.refuses("like ones", x, 0, y -> y.next(0, 0));
        s.refuses("like ones that are not", x, 0, y -> y.next(4, 4));
        for (int wild : Nets.WILD) {
            s.is("u " + wild, x.next(wild, 0), 0);
            s.is("v " + wild, x.next(0, wild), 0);
        }
        x.state(4, false);
        s.refuses("no far", x, 0, y -> y.next(3, 0));
    }
}
