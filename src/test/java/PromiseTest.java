/** Each promise by hand, from the document's words; texts (34 to 37) are in TextTest too. */
public final class PromiseTest {
    private static final int NONE = LabelStacks.NONE;
    private static final Due due = new Due("PromiseTest");
    private static final int[] WILD = {Integer.MIN_VALUE, -1000, -2, -1, 30, 99999, Integer.MAX_VALUE};

    private static final String DIAMOND = Nets.DIAMOND;
    /** One link behind the other, 0 to 5, each costing 1. */
    private static final String CHAIN =
        "nodes 6;link 0 1 1;link 1 2 1;link 2 3 1;link 3 4 1;link 4 5 1;";

    public static void main(String[] args) {
        newObject();
        nodes();
        link();
        state();
        cost();
        bindAndUnbind();
        depth();
        onAndOff();
        labelAndPop();
        write();
        writeWithBindings();
        bindingsThatLeaveTheWay();
        bindingDepth();
        witness();
        greedyAndCovers();
        farPathsNext();
        ends();
        exactAndHigh();
        course();
        share();
        demandAndLoad();
        heaviest();
        repair();
        guards();
        writable();
        stays();
        keepAndTake();
        feedEndTextFault();
        undo();
        undoEachAct();
        lookers();
        image();
        due.close();
    }

    private static void newObject() {
        LabelStacks x = new LabelStacks();
        int[] first = {2, 0, 0, 5, 0, 0, 0, 0, 0, 0, 0, 0, NONE, NONE};
        for (int what = 0; what < first.length; what++) {
            due.is("1: look(" + what + ")", x.look(what), first[what]);
        }
        due.is("1: far(0, 1)", x.far(0, 1), NONE);
        due.is("1: paths(0, 1)", x.paths(0, 1), 0);
        due.is("1: look(14)", x.look(14), NONE);
        due.is("1: look(-1)", x.look(-1), NONE);
        due.is("1: image(false)", x.image(false), false);
        due.is("1: undo()", x.undo(), NONE);
        due.is("1: NONE", LabelStacks.NONE, -1);
    }

    private static void nodes() {
        LabelStacks x = new LabelStacks();
        due.is("2: nodes(2)", x.nodes(2), true);
        due.is("2: nodes(10)", x.nodes(10), true);
        due.is("2: look(0)", x.look(0), 10);
        for (int n : new int[] {1, 0, -1, 11, Integer.MAX_VALUE, Integer.MIN_VALUE}) {
            due.is("2: nodes(" + n + ")", x.nodes(n), false);
        }
        due.is("2: refused ones are no acts", x.look(9), 2);
        x.link(0, 9, 3);
        x.on(0);
        x.keep();
        x.label(9);
        x.bind(0, 0);
        x.demand(0, 0, 1);
        x.depth(9);
        due.is("2: nodes(10) again", x.nodes(10), true);
        int[] then = {10, 0, 0, 9, 0, 1, 0, 0, 0, 6};
        for (int what = 0; what < then.length; what++) {
            due.is("2: then look(" + what + ")", x.look(what), then[what]);
        }
        due.is("2: far(0, 9)", x.far(0, 9), NONE);
    }

    private static void link() {
        LabelStacks x = new LabelStacks();
        x.nodes(3);
        due.is("3: link(0, 1, 1)", x.link(0, 1, 1), 0);
        due.is("3: an alike one", x.link(0, 1, 1), 1);
        due.is("3: cost 99", x.link(2, 0, 99), 2);
        due.is("3: cost 0", x.link(0, 1, 0), NONE);
        due.is("3: cost 100", x.link(0, 1, 100), NONE);
        due.is("3: like nodes", x.link(2, 2, 1), NONE);
        for (int v : new int[] {-1, 3, 10, Integer.MIN_VALUE, Integer.MAX_VALUE}) {
            due.is("3: from " + v, x.link(v, 1, 1), NONE);
            due.is("3: to " + v, x.link(1, v, 1), NONE);
        }
        due.is("3: acts", x.look(9), 4);
        due.is("3: up at first", x.look(2), 7);
        for (int i = 3; i < 30; i++) {
            due.is("3: link " + i, x.link(1, 2, 5), i);
        }
        due.is("3: a 31st", x.link(1, 2, 5), NONE);
        due.is("3: how many", x.look(1), 30);
        due.is("3: all up", x.look(2), (1 << 30) - 1);
        due.is("3: paths by alike ones", x.paths(1, 2), 27);
    }

    private static void state() {
        LabelStacks x = Due.told(DIAMOND);
        due.is("4: down", x.state(0, false), 1);
        due.is("4: it was down", x.state(0, false), 0);
        due.is("4: linkOf", x.linkOf(0, 3), 0);
        due.is("4: far without it", x.far(0, 1), NONE);
        due.is("4: paths without it", x.paths(0, 3), 1);
        due.is("4: up", x.state(0, true), 0);
        due.is("4: it was up", x.state(0, true), 1);
        due.is("4: paths with it", x.paths(0, 3), 2);
        due.is("4: none such", x.state(5, true), NONE);
        due.is("4: acts, those that change nothing too", x.look(9), 5);
        for (int l : WILD) {
            due.is("4: state(" + l + ")", x.state(l, false), NONE);
        }
        due.is("4: refused ones are no acts", x.look(9), 5);
    }

    private static void cost() {
        LabelStacks x = Due.told(DIAMOND);
        due.is("5: cost(0, 99)", x.cost(0, 99), 1);
        due.is("5: what it was", x.cost(0, 2), 99);
        due.is("5: far", x.far(0, 1), 2);
        due.is("5: cost 0", x.cost(0, 0), NONE);
        due.is("5: cost 100", x.cost(0, 100), NONE);
        due.is("5: no such link", x.cost(5, 1), NONE);
        for (int l : WILD) {
            due.is("5: cost(" + l + ")", x.cost(l, 1), NONE);
        }
        due.is("5: it stays", x.linkOf(0, 2), 2);
        due.is("5: acts", x.look(9), 3);
    }

    private static void bindAndUnbind() {
        LabelStacks x = Due.told(DIAMOND);
        due.is("6: no labels", x.bind(0, 0), false);
        Due.labels(x, 9, 129, 0, 100, 3, 3);
        due.is("6: six, of what is not there too", x.bind(5, 3), true);
        due.is("6: binding's node", x.binding(5, 0), 3);
        due.is("6: how many", x.binding(5, 1), 6);
        int[] row = {9, 129, 0, 100, 3, 3};
        for (int i = 0; i < 6; i++) {
            due.is("6: label " + i, x.binding(5, 10 + i), row[i]);
        }
        due.is("6: no seventh", x.binding(5, 16), NONE);
        due.is("6: another what", x.binding(5, 2), NONE);
        due.is("6: another what", x.binding(5, 9), NONE);
        due.is("6: another what", x.binding(5, -1), NONE);
        due.is("6: another what", x.binding(5, Integer.MIN_VALUE), NONE);
        due.is("6: the stack stays", x.look(5), 6);
        x.label(1);
        due.is("6: seven", x.bind(0, 0), false);
        Due.labels(x, 1, 200);
        due.is("6: one of a binding", x.bind(0, 0), false);
        Due.labels(x, 1);
        due.is("6: no such binding", x.bind(6, 0), false);
        due.is("6: no such binding", x.bind(-1, 0), false);
        due.is("6: no such node", x.bind(0, 4), false);
        due.is("6: no such node", x.bind(0, -1), false);
        due.is("6: set", x.look(6), 32);
        due.is("6: acts", x.look(9), 2);
        due.is("6: another in its place", x.bind(5, 0), true);
        due.is("6: its node", x.binding(5, 0), 0);
        due.is("6: its labels", x.binding(5, 1), 1);
        due.is("6: gone ones", x.binding(5, 11), NONE);
        due.is("7: unbind(4), none", x.unbind(4), false);
        due.is("7: unbind(6)", x.unbind(6), false);
        due.is("7: unbind(-1)", x.unbind(-1), false);
        due.is("7: unbind(5)", x.unbind(5), true);
        due.is("7: again", x.unbind(5), false);
        due.is("7: binding(5, 0)", x.binding(5, 0), NONE);
        due.is("7: set", x.look(6), 0);
        due.is("7: acts", x.look(9), 4);
        Due.labels(x, 205);
        due.is("7: a packet is dropped by it", x.ends(0), -2);
    }

    private static void depth() {
        LabelStacks x = new LabelStacks();
        due.is("8: depth(1)", x.depth(1), true);
        due.is("8: look(3)", x.look(3), 1);
        due.is("8: depth(12)", x.depth(12), true);
        due.is("8: depth(0)", x.depth(0), false);
        due.is("8: depth(13)", x.depth(13), false);
        due.is("8: depth(-1)", x.depth(-1), false);
        due.is("8: look(3) stays", x.look(3), 12);
        due.is("8: no act", x.look(9), 0);
    }

    private static void onAndOff() {
        LabelStacks x = Due.told("nodes 3;link 0 1 2;link 1 0 3;link 1 2 4 down;");
        due.is("9: any link first", x.on(1), 1);
        due.is("9: begins elsewhere", x.on(1), NONE);
        due.is("9: no such link", x.on(3), NONE);
        due.is("9: no such link", x.on(-1), NONE);
        due.is("9: the next", x.on(0), 2);
        due.is("9: a down one too", x.on(2), 3);
        due.row("9: the way", x, 0, 1, 0, 2);
        due.is("44: costs", x.look(11), 9);
        due.is("44: begins", x.look(12), 1);
        due.is("44: ends", x.look(13), 2);
        due.is("10: off(-1)", x.off(-1), NONE);
        due.is("10: off(4)", x.off(4), NONE);
        due.is("10: off(0)", x.off(0), 3);
        due.is("10: off(2)", x.off(2), 1);
        due.row("10: the way", x, 0, 1);
        due.is("10: off(1)", x.off(1), 0);
        due.is("10: off(1) of none", x.off(1), NONE);
        due.is("10: off(0) of none", x.off(0), 0);
        for (int i = 0; i < 16; i++) {
            due.is("9: sixteen", x.on(i % 2), i + 1);
        }
        due.is("9: a 17th", x.on(0), NONE);
        due.is("9: no act", x.look(9), 1);
    }

    private static void labelAndPop() {
        LabelStacks x = new LabelStacks();
        int[] labels = {0, 9, 100, 129, 200, 205};
        for (int i = 0; i < 6; i++) {
            due.is("11: label(" + labels[i] + ")", x.label(labels[i]), i + 1);
        }
        for (int label : new int[] {-1, 10, 99, 130, 199, 206, Integer.MIN_VALUE, Integer.MAX_VALUE}) {
            due.is("11: label(" + label + ")", x.label(label), NONE);
        }
        for (int i = 7; i <= 12; i++) {
            due.is("11: the " + i + "th", x.label(i - 5), i);
        }
        due.is("11: a 13th", x.label(1), NONE);
        due.is("12: pop(13)", x.pop(13), NONE);
        due.is("12: pop(-1)", x.pop(-1), NONE);
        due.is("12: pop(0)", x.pop(0), 12);
        due.is("12: pop(5)", x.pop(5), 7);
        due.row("12: the first go", x, 1, 205, 2, 3, 4, 5, 6, 7);
        due.is("12: pop(7)", x.pop(7), 0);
        due.is("12: pop(1) of none", x.pop(1), NONE);
    }

    private static void write() {
        LabelStacks x = Due.told(CHAIN);
        Due.labels(x, 129);
        due.is("13: an empty way", x.write(), NONE);
        due.row("13: the stack stays", x, 1, 129);
        Due.way(x, 0, 1, 2, 3, 4);
        due.is("13: a sole shortest way", x.write(), 1);
        due.row("13: one label", x, 1, 5);
        LabelStacks y = Due.told(DIAMOND);
        Due.way(y, 0, 1);
        due.is("13: one of two alike", y.write(), 2);
        due.row("13: by the nodes, their numbers being less", y, 1, 1, 3);
        Due.way(y, 0, 1, 4);
        due.is("13: the first label that covers the most", y.write(), 2);
        due.row("13: node 1, then node 0", y, 1, 1, 0);
        // Of 0-1-2-3, where 0 to 2 and 1 to 3 are sole: the first label covers two.
        LabelStacks z = Due.told("nodes 4;link 0 1 1;link 1 2 1;link 2 3 1;link 0 3 3;");
        Due.way(z, 0, 1, 2);
        due.is("13: ties", z.write(), 2);
        due.row("13: the most first", z, 1, 2, 3);
        // Two alike links: only the link's own label tells which.
        LabelStacks w = Due.told("nodes 3;link 0 1 1;link 0 1 1;link 1 2 1;link 0 1 2;");
        Due.way(w, 1, 2);
        due.is("13: alike links", w.write(), 2);
        due.row("13: by the link", w, 1, 101, 2);
        Due.way(w, 3, 2);
        due.is("13: a dear link", w.write(), 2);
        due.row("13: by the link", w, 1, 103, 2);
        w.depth(1);
        due.is("13: too deep", w.write(), NONE);
        due.row("13: the stack stays", w, 1, 103, 2);
        w.depth(2);
        due.is("13: as deep as may be", w.write(), 2);
        w.state(3, false);
        due.is("13: down", w.write(), NONE);
    }

    private static void writeWithBindings() {
        // All of 0 .. 4 is doubled, so that without bindings each link takes a label.
        LabelStacks x = Due.told("nodes 5;link 0 1 1;link 0 1 1;link 1 2 1;link 1 2 1;link 2 3 1;link 2 3 1;"
            + "link 3 4 1;link 3 4 1;bind 3 at 1:l2 l4;");
        Due.way(x, 0, 2, 4, 6);
        due.is("13: with a binding", x.write(), 3);
        due.row("13: its row", x, 1, 100, 203, 106);
        due.is("22: its high", x.high(0), 3);
        x.depth(3);
        due.is("13: three deep", x.write(), 3);
        Due.labels(x, 100, 102);
        x.bind(1, 0);
        due.is("13: another that is too deep", x.write(), 3);
        due.row("13: as ahead", x, 1, 100, 203, 106);
        x.depth(4);
        due.is("13: two bindings do not overlap", x.write(), 3);
        due.row("13: the first covers the most", x, 1, 201, 104, 106);
        due.is("22: two there, two behind", x.high(0), 4);
    }

    /** All is doubled; a binding whose course is not the way's beginning is of no use, wherever it leaves it. */
    private static void bindingsThatLeaveTheWay() {
        String net = "nodes 5;link 0 1 1;link 0 1 1;link 1 2 1;link 1 2 1;link 2 0 1;link 0 3 1;link 3 4 1;";
        String[] useless = {"n9 l0 l2", "n2 l0 l2", "n3 l0 l2", "n4 l0 l2", "l29 l0 l2", "l1 l0 l2", "l0 l2 l4 l0",
            "l0 n2", "l0 l2 n3", "n0", "n0 n0 n0", "l0 l3", "l2 l0"};
        for (String row : useless) {
            LabelStacks x = Due.told(net + "bind 0 at 0:" + row + ";");
            Due.way(x, 0, 2, 4);
            due.is("13: without a binding of " + row, x.write(), 3);
            due.row("13: without a binding of " + row, x, 1, 100, 102, 0);
        }
        String[] useful = {"l0 l2", "n0 l0 l2", "l0 n1 l2", "l0 l2 n2 n2", "n0 n0 l0 l2"};
        for (String row : useful) {
            LabelStacks x = Due.told(net + "bind 0 at 0:" + row + ";");
            Due.way(x, 0, 2, 4);
            due.is("13: with a binding of " + row, x.write(), 2);
            due.row("13: with a binding of " + row, x, 1, 200, 0);
            x.off(1);
            due.is("13: to the way's end, " + row, x.write(), 1);
            due.row("13: to the way's end, " + row, x, 1, 200);
        }
        LabelStacks x = Due.told(net + "bind 2 at 1:l2 n0 n0;bind 1 at 1:l2 l4;bind 0 at 0:l0;");
        Due.way(x, 0, 2, 4);
        due.is("13: of alike ones", x.write(), 2);
        due.row("13: the least numbers", x, 1, 100, 201);
        LabelStacks y = Due.told(net + "bind 0 at 0:l0 l2;");
        y.state(0, false);
        Due.way(y, 0, 2, 4);
        due.is("13: a down link in a binding", y.write(), NONE);
        due.is("14: it", y.witness(), 0);
    }

    private static void bindingDepth() {
        LabelStacks x = Due.told("nodes 5;link 0 1 1;link 0 1 1;link 1 2 1;link 1 2 1;link 2 3 1;link 2 3 1;"
            + "link 3 4 1;link 3 4 1;bind 0 at 0:l0 l2 l4;bind 1 at 2:l4 l6;");
        Due.way(x, 0, 2, 4, 6);
        x.depth(4);
        due.is("13: three and one behind", x.write(), 2);
        due.row("13: the binding of three", x, 1, 200, 106);
        due.is("22: four at once", x.high(0), 4);
        x.depth(3);
        due.is("13: not so deep", x.write(), 3);
        due.row("13: the second binding", x, 1, 100, 102, 201);
        due.is("22: three at once", x.high(0), 3);
        x.depth(2);
        due.is("13: not at all", x.write(), NONE);
        due.is("14: the rest behind the first link can", x.witness(), 0);
        x.depth(1);
        due.is("14: the last link alone can", x.witness(), 2);
        x.depth(6);
        Due.labels(x, 0, 100, 102, 2, 2, 104);
        x.bind(2, 0);
        Due.labels(x, 106);
        x.bind(3, 3);
        due.is("13: labels that stay in place", x.write(), 2);
        due.row("13: of alike ones the least number", x, 1, 200, 106);
        x.unbind(0);
        due.is("13: the other one", x.write(), 3);
        due.row("13: with one behind it is seven high", x, 1, 100, 102, 201);
        x.depth(7);
        due.is("13: seven", x.write(), 2);
        due.row("13: it covers three", x, 1, 202, 106);
    }

    private static void witness() {
        LabelStacks x = Due.told("nodes 4;link 0 1 1;link 1 2 1;link 2 3 1;link 3 0 1;");
        due.is("14: empty", x.witness(), NONE);
        Due.way(x, 0, 1, 2, 3);
        due.is("14: it can be", x.witness(), NONE);
        x.state(1, false);
        due.is("14: the down link", x.witness(), 1);
        x.state(3, false);
        due.is("14: the last one", x.witness(), 3);
        x.state(1, true);
        x.state(3, true);
        x.depth(1);
        due.is("14: too deep from", x.witness(), 0);
        Due.way(x, 0, 1, 2);
        due.is("14: one label is enough", x.witness(), NONE);
    }

    private static void greedyAndCovers() {
        LabelStacks x = Due.told(DIAMOND);
        due.is("15: empty", x.greedy(), 0);
        due.is("16: no place", x.covers(0), NONE);
        Due.way(x, 0, 1, 4, 2);
        due.is("16: covers(0)", x.covers(0), 1);
        due.is("16: covers(1)", x.covers(1), 3);
        due.is("16: covers(2)", x.covers(2), 2);
        due.is("16: covers(3)", x.covers(3), 1);
        due.is("16: covers(4)", x.covers(4), NONE);
        due.is("16: covers(-1)", x.covers(-1), NONE);
        due.is("15: greedy", x.greedy(), 2);
        x.state(4, false);
        due.is("15: needs a down one", x.greedy(), NONE);
        due.is("16: the down one", x.covers(2), 0);
        LabelStacks y = Due.told("nodes 3;link 0 1 1;link 0 1 1;link 1 2 1;bind 0 at 0:l0 n2;");
        Due.way(y, 0, 2);
        due.is("16: alike links", y.covers(0), 0);
        due.is("15: by the link's label", y.greedy(), 2);
        due.is("13: the binding is one label", y.write(), 1);
        due.row("13: it", y, 1, 200);
        y.depth(1);
        due.is("15: without bindings and depth", y.greedy(), 2);
        LabelStacks z = Due.told("nodes 2;link 0 1 1;link 1 0 1;link 0 1 1;link 1 0 1;");
        for (int i = 0; i < 16; i++) {
            z.on(i % 2);
        }
        due.is("15: sixteen", z.greedy(), 16);
        z.depth(12);
        due.is("13: deeper than may be", z.write(), NONE);
        due.is("14: twelve behind it can", z.witness(), 3);
        z.off(4);
        due.is("13: just twelve", z.write(), 12);
    }

    private static void farPathsNext() {
        LabelStacks x = Due.told(DIAMOND);
        due.is("17: far(0, 3)", x.far(0, 3), 2);
        due.is("17: far(3, 2)", x.far(3, 2), 6);
        due.is("17: far(2, 2)", x.far(2, 2), 0);
        due.is("17: no such node", x.far(0, 4), NONE);
        due.is("17: no such node", x.far(-1, 0), NONE);
        due.is("17: like ones that are none", x.far(4, 4), NONE);
        due.is("18: paths(0, 3)", x.paths(0, 3), 2);
        due.is("18: paths(1, 2)", x.paths(1, 2), 1);
        due.is("18: paths(2, 2)", x.paths(2, 2), 1);
        due.is("18: no such node", x.paths(0, 4), NONE);
        due.is("18: no such node", x.paths(-1, 0), NONE);
        due.is("19: next(0, 3)", x.next(0, 3), 5);
        due.is("19: next(3, 1)", x.next(3, 1), 16);
        due.is("19: next(3, 3)", x.next(3, 3), 0);
        due.is("19: no such node", x.next(0, 4), 0);
        due.is("19: no such node", x.next(-1, 3), 0);
        x.state(4, false);
        due.is("17: no way", x.far(3, 0), NONE);
        due.is("18: no way", x.paths(3, 0), 0);
        due.is("19: no way", x.next(3, 0), 0);
        // 3 links each over 7 stages and 4 each over two: 3 ^ 7 * 4 ^ 2.
        LabelStacks y = new LabelStacks();
        y.nodes(10);
        for (int u = 0; u < 9; u++) {
            for (int i = 0; i < (u < 7 ? 3 : 4); i++) {
                y.link(u, u + 1, 99);
            }
        }
        due.is("18: many", y.paths(0, 9), 2187L * 16);
        due.is("17: far away", y.far(0, 9), 891);
        due.is("19: the highest bits", y.next(8, 9), 15 << 25);
        Due.labels(y, 9);
        due.is("24: a fourth at the end", y.share(0, 28, 1), 4);
        due.is("24: one by three at the beginning", y.share(0, 0, 1), 3);
    }

    private static void ends() {
        LabelStacks x = Due.told(DIAMOND + "bind 0 at 1:l1 n0;bind 1 at 3:n0 l3 n3;");
        due.is("20: no labels", x.ends(2), 2);
        due.is("20: no such node", x.ends(4), NONE);
        due.is("20: no such node", x.ends(-1), NONE);
        Due.labels(x, 3);
        due.is("20: in shares", x.ends(0), 3);
        Due.labels(x, 3, 3, 0, 0);
        due.is("20: where it is already", x.ends(0), 0);
        Due.labels(x, 4);
        due.is("20: no such node", x.ends(0), -2);
        Due.labels(x, 100, 101, 104, 102);
        due.is("20: by links", x.ends(0), 2);
        due.is("20: begins elsewhere", x.ends(3), -2);
        Due.labels(x, 100, 105);
        due.is("20: no such link", x.ends(0), -3);
        Due.labels(x, 1, 200, 2);
        due.is("20: by a binding", x.ends(0), 2);
        Due.labels(x, 2, 200);
        due.is("20: held elsewhere", x.ends(0), -3);
        Due.labels(x, 202);
        due.is("20: none", x.ends(0), -2);
        Due.labels(x, 1, 200, 0, 3, 201);
        // First were 1, 200, l1, n0, 0, 3, 201, n0, l3: the ninth, number 8.
        due.is("20: inside a binding", x.ends(0), -2 - 8);
        x.state(4, false);
        due.is("20: no far inside a binding", x.ends(0), -2 - 3);
        Due.labels(x, 104);
        due.is("20: a down link", x.ends(3), -2);
        Due.labels(x, 0);
        due.is("20: no far", x.ends(3), -2);
        LabelStacks y = Due.told("nodes 2;link 0 1 1;link 1 0 1;bind 0 at 0:l0 l1 l0 l1 l0 l1;");
        Due.labels(y, 200, 200, 200, 200, 200, 200, 200, 200, 200, 200, 200, 101);
        due.is("20: the most labels ever, but for some", y.ends(0), -2 - 77);
        due.is("22: seventeen", y.high(0), 17);
        y.pop(1);
        y.label(200);
        due.is("20: the last is still found", y.ends(0), -2 - 70);
        Due.labels(y, 200, 200, 200, 200, 200, 200, 200, 200, 200, 200, 200, 200);
        due.is("20: 84 labels", y.ends(0), 0);
        due.is("24: 36 times", y.share(0, 0, 0), 36);
        due.is("23: more than 16 links", y.course(0), NONE);
        due.is("20: 84 labels, held elsewhere", y.ends(1), -2);
    }

    private static void exactAndHigh() {
        LabelStacks x = Due.told(DIAMOND + "bind 0 at 1:l1 n0 n1 n1;");
        due.is("21: without labels", x.exact(0), 1);
        due.is("21: no such node", x.exact(4), NONE);
        due.is("21: no such node", x.exact(-1), NONE);
        due.is("22: without labels", x.high(0), 0);
        due.is("22: no such node", x.high(4), NONE);
        due.is("22: no such node", x.high(-1), NONE);
        Due.labels(x, 3);
        due.is("21: two alike", x.exact(0), 0);
        due.is("21: sole", x.exact(1), 1);
        due.is("21: it is there", x.exact(3), 1);
        Due.labels(x, 1, 200, 3);
        due.is("21: with a binding", x.exact(0), 1);
        due.is("22: 1, 200, 3; then four and 3", x.high(0), 5);
        due.is("21: dropped", x.exact(2), 1);
        Due.labels(x, 200, 3, 100);
        due.is("21: dropped at the second", x.exact(1), 0);
        due.is("22: of one that is dropped", x.high(1), 6);
        due.is("22: dropped at once", x.high(0), 3);
        Due.labels(x, 1, 1, 1, 1, 200);
        due.is("22: at first the most", x.high(0), 5);
        x.cost(0, 2);
        Due.labels(x, 3);
        due.is("21: sole by cost", x.exact(0), 1);
    }

    private static void course() {
        LabelStacks x = Due.told(DIAMOND + "bind 0 at 1:l1 n0;");
        Due.way(x, 4);
        due.is("23: no links", x.course(0), NONE);
        due.is("23: no such node", x.course(4), NONE);
        due.is("23: no such node", x.course(-1), NONE);
        Due.labels(x, 3);
        due.is("23: not exact", x.course(0), NONE);
        due.is("23: none, being there", x.course(3), NONE);
        due.row("23: the way stays", x, 0, 4);
        Due.labels(x, 1, 200, 102, 3);
        due.is("23: five", x.course(0), 5);
        due.row("23: its links", x, 0, 0, 1, 4, 2, 3);
        Due.labels(x, 105);
        due.is("23: dropped", x.course(0), NONE);
        due.row("23: the way stays", x, 0, 0, 1, 4, 2, 3);
        LabelStacks y = Due.told("nodes 2;link 0 1 1;link 1 0 1;bind 0 at 0:l0 l1 l0 l1 l0 l1;");
        Due.labels(y, 200, 200, 100, 101, 100, 101);
        due.is("23: sixteen", y.course(0), 16);
        due.is("23: sixteen of them", y.look(4), 16);
        y.label(100);
        y.off(15);
        due.is("23: seventeen", y.course(0), NONE);
        due.row("23: the way stays", y, 0, 0);
        due.is("23: no act", y.look(9), 1);
    }

    private static void share() {
        // 0 parts in three; node 1 in two; 2 and 3 go straight to 4; node 4 to 5.
        LabelStacks x = Due.told("nodes 6;link 0 1 1;link 0 2 2;link 0 3 2;link 1 2 1;link 1 3 1;"
            + "link 2 4 1;link 3 4 1;link 4 5 1;link 4 5 1;link 5 0 1;");
        Due.labels(x, 5);
        long[][] parts = {{1, 3}, {1, 3}, {1, 3}, {1, 6}, {1, 6}, {1, 2}, {1, 2}, {1, 2}, {1, 2}, {0, 1}};
        for (int l = 0; l < 10; l++) {
            due.is("24: above, link " + l, x.share(0, l, 0), parts[l][0]);
            due.is("24: below, link " + l, x.share(0, l, 1), parts[l][1]);
        }
        Due.labels(x, 5, 0, 4, 105, 5);
        due.is("24: up to where it is dropped", x.ends(0), -2 - 3);
        due.is("24: twice a third", x.share(0, 0, 0), 2);
        due.is("24: twice a third", x.share(0, 0, 1), 3);
        due.is("24: a half and a half", x.share(0, 5, 0), 1);
        due.is("24: a half and a half", x.share(0, 5, 1), 1);
        due.is("24: once", x.share(0, 9, 0), 1);
        due.is("24: once and a half", x.share(2, 5, 0), 3);
        due.is("24: once and a half", x.share(2, 5, 1), 2);
        Due.labels(x, 105, 9);
        due.is("24: dropped at once", x.share(0, 5, 0), 0);
        due.is("24: dropped at once", x.share(0, 5, 1), 1);
        due.is("24: another what", x.share(0, 0, 2), NONE);
        due.is("24: another what", x.share(0, 0, -1), NONE);
        due.is("24: no such link", x.share(0, 10, 0), NONE);
        due.is("24: no such link", x.share(0, -1, 0), NONE);
        due.is("24: no such node", x.share(6, 0, 0), NONE);
        due.is("24: no such node", x.share(-1, 0, 0), NONE);
    }

    private static void demandAndLoad() {
        LabelStacks x = Due.told(DIAMOND);
        Due.labels(x, 3);
        due.is("25: demand(0, 0, 7)", x.demand(0, 0, 7), true);
        due.is("25: demand(8, 0, 7)", x.demand(8, 0, 7), false);
        due.is("25: demand(-1, 0, 7)", x.demand(-1, 0, 7), false);
        due.is("25: demand(0, 4, 7)", x.demand(0, 4, 7), false);
        due.is("25: demand(0, -1, 7)", x.demand(0, -1, 7), false);
        due.is("25: demand(0, 0, 0)", x.demand(0, 0, 0), false);
        due.is("25: demand(0, 0, 100)", x.demand(0, 0, 100), false);
        due.is("25: acts", x.look(9), 2);
        due.is("26: seven halves", x.load(0, 0), 7);
        due.is("26: seven halves", x.load(0, 1), 2);
        Due.labels(x, 1, 1);
        due.is("25: another", x.demand(7, 0, 99), true);
        due.is("26: both", x.load(0, 0), 205);
        due.is("26: both", x.load(0, 1), 2);
        Due.labels(x, 102, 100);
        due.is("25: a third, dropped", x.demand(3, 0, 99), true);
        due.is("26: the dropped one lays nothing", x.load(2, 0), 7);
        due.is("42: where it ends", x.demandOf(3, 3), -3);
        due.is("44: demands", x.look(7), 1 + 128 + 8);
        due.is("42: its node", x.demandOf(7, 0), 0);
        due.is("42: its volume", x.demandOf(7, 1), 99);
        due.is("42: its labels", x.demandOf(7, 2), 2);
        due.is("42: where it ends", x.demandOf(7, 3), 1);
        due.is("42: another what", x.demandOf(7, 4), NONE);
        due.is("42: another what", x.demandOf(7, -1), NONE);
        due.is("42: none", x.demandOf(1, 0), NONE);
        due.is("42: none such", x.demandOf(8, 0), NONE);
        due.is("42: none such", x.demandOf(-1, 0), NONE);
        x.pop(2);
        due.is("25: without labels", x.demand(7, 2, 1), true);
        due.is("42: its labels", x.demandOf(7, 2), 0);
        due.is("42: it ends where it begins", x.demandOf(7, 3), 2);
        due.is("26: in lowest terms", x.load(0, 0), 7);
        due.is("26: none", x.load(4, 0), 0);
        due.is("26: none", x.load(4, 1), 1);
        due.is("26: another what", x.load(0, 2), NONE);
        due.is("26: another what", x.load(0, -1), NONE);
        due.is("26: no such link", x.load(5, 0), NONE);
        due.is("26: no such link", x.load(-1, 0), NONE);
        x.state(0, false);
        due.is("26: as all is now", x.load(2, 0), 7);
        due.is("26: as all is now", x.load(2, 1), 1);
    }

    private static void heaviest() {
        LabelStacks x = Due.told(DIAMOND);
        due.is("27: no demands", x.heaviest(), NONE);
        x.demand(0, 0, 50);
        due.is("27: no load", x.heaviest(), NONE);
        Due.labels(x, 3);
        x.demand(0, 0, 50);
        due.is("27: the first of four alike", x.heaviest(), 0);
        x.demand(1, 2, 1);
        due.is("27: 26 above 25", x.heaviest(), 3);
        Due.labels(x, 0, 4);
        x.demand(2, 3, 99);
        due.is("27: the dropped one lays nothing", x.heaviest(), 3);
        Due.labels(x, 0);
        x.demand(2, 3, 26);
        due.is("27: of two alike the first", x.heaviest(), 3);
        x.demand(2, 3, 27);
        due.is("27: 27 above 26", x.heaviest(), 4);
    }

    private static void repair() {
        LabelStacks x = Due.told(DIAMOND);
        Due.way(x, 4);
        Due.labels(x, 9);
        due.is("28: round link 0 to 3", x.repair(0, 3), 2);
        due.row("28: its way", x, 0, 2, 3);
        due.row("28: its stack, as all is now", x, 1, 2, 3);
        due.is("28: none round link 4", x.repair(4, 0), NONE);
        due.is("28: where it begins", x.repair(0, 0), NONE);
        due.is("28: no such link", x.repair(5, 0), NONE);
        due.is("28: no such link", x.repair(-1, 0), NONE);
        due.is("28: no such node", x.repair(0, 4), NONE);
        due.is("28: no such node", x.repair(0, -1), NONE);
        x.depth(1);
        due.is("28: can't be written", x.repair(2, 3), NONE);
        due.row("28: all stays", x, 0, 2, 3);
        due.row("28: all stays", x, 1, 2, 3);
        due.is("28: no act", x.look(9), 1);
        // Round link 0 two ways cost alike: 1 then 4 comes ahead of 2 then 3; the link itself is still up.
        LabelStacks y = Due.told("nodes 4;link 0 3 4;link 0 1 2;link 0 2 2;link 2 3 2;link 1 3 2;link 0 3 4;");
        due.is("28: of several the first as a row", y.repair(0, 3), 2);
        due.row("28: 1 and 4", y, 0, 1, 4);
        due.row("28: its labels", y, 1, 1, 3);
        y.cost(1, 3);
        y.cost(2, 3);
        due.is("28: an alike link", y.repair(0, 3), 1);
        due.row("28: it", y, 0, 5);
        due.row("28: by its own label, as the other is up", y, 1, 105);
        y.state(0, false);
        due.is("28: the link being down", y.repair(0, 3), 1);
        due.row("28: by the node's label", y, 1, 3);
        LabelStacks z = Due.told("nodes 3;link 0 2 1;link 0 1 1;link 1 2 1;");
        due.is("28: l as it is", z.repair(0, 2), 2);
        due.row("28: dearer, by two labels", z, 1, 1, 2);
        z.state(0, false);
        due.is("28: l down", z.repair(0, 2), 1);
    }

    private static void guards() {
        LabelStacks x = Due.told("nodes 4;link 0 1 1;link 1 2 1;link 2 3 1;link 0 3 9;link 1 3 5;link 2 0 2;");
        due.is("29: empty", x.guards(0), NONE);
        Due.way(x, 0, 1, 2);
        due.is("29: all guarded", x.guards(0), 7);
        // Round 0: link 3 (9). Round 1: 1 and link 4 (5). Round 2: 2 and links 5, 0, 4 (8).
        due.is("29: the most costs", x.guards(2), 10);
        due.is("29: the most labels", x.guards(1), 2);
        due.is("29: another what", x.guards(3), NONE);
        due.is("29: another what", x.guards(-1), NONE);
        x.state(5, false);
        due.is("29: two guarded", x.guards(0), 3);
        due.is("29: the most costs", x.guards(2), 9);
        due.is("29: one label", x.guards(1), 1);
        x.state(3, false);
        x.state(4, false);
        due.is("29: none", x.guards(0), 0);
        due.is("29: none", x.guards(1), 0);
        due.is("29: none", x.guards(2), 0);
        due.is("29: the way stays", x.look(4), 3);
        // The way comes through its own end: there the repair has no link.
        LabelStacks y = Due.told("nodes 3;link 0 1 1;link 1 2 1;link 2 1 1;link 0 1 5;link 2 1 5;");
        Due.way(y, 0, 1, 2);
        due.is("29: not where it ends already", y.guards(0), 5);
        due.is("29: costs as far as there", y.guards(2), 7);
        y.depth(1);
        due.is("29: still written", y.guards(0), 5);
        LabelStacks z = Due.told(DIAMOND);
        Due.way(z, 0, 1);
        z.depth(1);
        due.is("29: can't be written", z.guards(0), 0);
    }

    private static void writable() {
        LabelStacks x = Due.told(DIAMOND);
        due.is("30: one label", x.writable(0, 3, 2, 1), 0);
        due.is("30: two labels", x.writable(0, 3, 2, 2), 2);
        due.is("30: one link", x.writable(0, 3, 1, 12), 0);
        due.is("30: one link", x.writable(0, 1, 1, 1), 1);
        due.is("30: round", x.writable(1, 2, 3, 1), 1);
        due.is("30: round, too short", x.writable(1, 2, 2, 1), 0);
        due.is("30: like", x.writable(0, 0, 2, 1), NONE);
        due.is("30: k 0", x.writable(0, 3, 0, 1), NONE);
        due.is("30: k 7", x.writable(0, 3, 7, 1), NONE);
        due.is("30: d 0", x.writable(0, 3, 1, 0), NONE);
        due.is("30: d 13", x.writable(0, 3, 1, 13), NONE);
        due.is("30: d 12", x.writable(0, 3, 6, 12), 2);
        due.is("30: no such node", x.writable(4, 3, 1, 1), NONE);
        due.is("30: no such node", x.writable(0, -1, 1, 1), NONE);
        x.depth(1);
        due.is("30: depth too", x.writable(0, 3, 2, 2), 0);
        x.depth(5);
        x.state(0, false);
        due.is("30: up ones", x.writable(0, 3, 2, 2), 1);
        // Five alike links over six stages: 5 ^ 6 ways, each of six labels.
        LabelStacks y = new LabelStacks();
        y.nodes(7);
        for (int i = 0; i < 30; i++) {
            y.link(i / 5, i / 5 + 1, 7);
        }
        due.is("30: six labels are too deep", y.writable(0, 6, 6, 6), 0);
        y.depth(6);
        due.is("30: all of them", y.writable(0, 6, 6, 6), 15625);
        due.is("30: five labels", y.writable(0, 6, 6, 5), 0);
        due.is("30: five links", y.writable(0, 6, 5, 6), 0);
        due.is("30: five links", y.writable(1, 6, 5, 5), 3125);
        Due.labels(y, 100, 105);
        y.bind(0, 0);
        due.is("30: with a binding", y.writable(0, 6, 6, 5), 625);
        y.depth(5);
        due.is("30: which is too deep", y.writable(0, 6, 6, 5), 0);
        Due.labels(y, 120, 125);
        y.bind(1, 4);
        due.is("30: one behind the others is not", y.writable(0, 6, 6, 5), 625);
    }

    private static void stays() {
        LabelStacks x = Due.told("nodes 3;link 0 2 5;link 0 1 2;link 1 2 2;");
        due.is("31: empty", x.stays(0, 0), NONE);
        Due.way(x, 1, 2);
        due.is("31: one label while the sum is below", x.stays(1, 0), 1);
        due.is("31: one label while the sum is below", x.stays(1, 1), 2);
        due.is("31: the other link", x.stays(0, 0), 5);
        due.is("31: the other link", x.stays(0, 1), 99);
        due.is("31: no such link", x.stays(3, 0), NONE);
        due.is("31: no such link", x.stays(-1, 0), NONE);
        due.is("31: another what", x.stays(0, 2), NONE);
        due.is("31: another what", x.stays(0, -1), NONE);
        due.is("31: costs are as they were", x.linkOf(1, 2), 2);
        due.is("31: and far", x.far(0, 2), 4);
        due.is("31: no act", x.look(9), 1);
        x.cost(0, 4);
        due.is("31: two labels now", x.stays(0, 0), 1);
        due.is("31: two labels now", x.stays(0, 1), 4);
        x.depth(1);
        due.is("31: none, as now", x.stays(0, 0), 1);
        due.is("31: none, as now", x.stays(0, 1), 4);
        x.state(0, false);
        due.is("31: a down link", x.stays(0, 0), 1);
        due.is("31: a down link", x.stays(0, 1), 99);
        x.state(0, true);
        x.state(1, false);
        due.is("31: a way that can't be", x.stays(2, 0), 1);
        due.is("31: a way that can't be", x.stays(2, 1), 99);
        // One behind the other: of 0-1-2, sole below 3 and (by 0-2 of 9 and 1-2 of 3) never above again.
        LabelStacks y = Due.told("nodes 3;link 0 1 1;link 1 2 3;link 1 2 3;");
        Due.way(y, 0, 1);
        due.is("31: the alike one's range", y.stays(2, 0), 1);
        due.is("31: the alike one's range", y.stays(2, 1), 3);
        y.cost(2, 4);
        due.is("31: just above", y.stays(2, 0), 4);
        due.is("31: just above", y.stays(2, 1), 99);
    }

    private static void keepAndTake() {
        LabelStacks x = Due.told("nodes 2;link 0 1 1;link 1 0 1;");
        due.is("32: empty", x.keep(), NONE);
        due.is("33: none", x.take(0), NONE);
        for (int i = 0; i < 12; i++) {
            x.on(i % 2);
            due.is("32: number " + i, x.keep(), i);
            due.is("32: again", x.keep(), i);
        }
        due.is("44: kept", x.look(8), 12);
        due.is("38: acts", x.look(9), 6);
        x.on(0);
        due.is("32: a 13th", x.keep(), NONE);
        due.is("33: take(4)", x.take(4), 5);
        due.row("33: it", x, 0, 0, 1, 0, 1, 0);
        due.is("32: a like one, though there are 12", x.keep(), 4);
        due.is("33: take(12)", x.take(12), NONE);
        due.is("33: take(-1)", x.take(-1), NONE);
        due.is("33: the way stays", x.look(4), 5);
        due.is("33: take(0)", x.take(0), 1);
        Due.way(x, 1);
        due.is("32: another of the same length", x.keep(), NONE);
        x.undo();
        due.is("38: the twelfth is gone", x.look(8), 11);
        due.is("38: the way is as it was then", x.look(4), 12);
        Due.way(x, 1);
        due.is("32: one more again", x.keep(), 11);
    }

    private static void feedEndTextFault() {
        LabelStacks x = new LabelStacks();
        due.is("34: feed", x.feed(0x6E6F6465, 0x7320333B, 0, 0, 0), 20);
        due.is("44: bytes", x.look(10), 20);
        due.is("35: end(21)", x.end(21), false);
        due.is("35: end(-1)", x.end(-1), false);
        due.is("35: end(8)", x.end(8), true);
        due.is("36: text", x.text(), 0);
        due.is("44: nodes", x.look(0), 3);
        due.is("37: no fault", x.fault(0), 0);
        due.is("37: no place", x.fault(1), NONE);
        due.is("36: the tape is empty", x.text(), NONE);
        due.is("37: fault", x.fault(0), 1);
        due.is("37: place", x.fault(1), 0);
        due.is("37: another what", x.fault(2), NONE);
        due.is("37: another what", x.fault(-1), NONE);
    }

    private static void undo() {
        LabelStacks x = new LabelStacks();
        x.nodes(3);
        for (int i = 0; i < 9; i++) {
            x.link(0, 1, i + 1);
        }
        due.is("38: the latest six", x.look(9), 6);
        x.on(8);
        x.label(7);
        x.depth(9);
        for (int i = 5; i >= 0; i--) {
            due.is("38: undo", x.undo(), i);
            due.is("38: links", x.look(1), 3 + i);
            due.is("38: the way as ahead of it", x.look(4), 0);
        }
        due.is("38: none left", x.undo(), NONE);
        due.is("38: links", x.look(1), 3);
        due.row("38: the stack stays", x, 1, 7);
        due.is("38: depth stays", x.look(3), 9);
        due.is("38: far as then", x.far(0, 1), 1);
        due.is("38: an act again", x.link(1, 2, 1), 3);
        due.is("38: one", x.look(9), 1);
    }

    private static void undoEachAct() {
        LabelStacks x = Due.told(DIAMOND);
        Due.labels(x, 3, 104);
        Due.way(x, 0);
        x.state(0, false);
        Due.way(x, 2, 3);
        due.is("38: state", x.undo(), 1);
        due.is("38: up again", x.linkOf(0, 3), 1);
        due.row("38: the way", x, 0, 0);
        x.cost(0, 50);
        due.is("38: cost", x.undo(), 1);
        due.is("38: its cost", x.linkOf(0, 2), 1);
        due.is("38: far", x.far(0, 1), 1);
        x.bind(2, 1);
        Due.labels(x, 1);
        x.bind(2, 3);
        due.is("38: bind in another's place", x.undo(), 2);
        due.is("38: its node", x.binding(2, 0), 1);
        due.is("38: its labels", x.binding(2, 11), 104);
        x.unbind(2);
        due.is("38: unbind", x.undo(), 2);
        due.is("38: its labels", x.binding(2, 10), 3);
        due.is("38: bind", x.undo(), 1);
        due.is("38: none", x.binding(2, 0), NONE);
        x.demand(1, 0, 5);
        Due.labels(x, 1, 2, 3);
        x.demand(1, 2, 6);
        due.is("38: demand", x.undo(), 2);
        due.is("38: its volume", x.demandOf(1, 1), 5);
        due.is("38: its labels", x.demandOf(1, 2), 1);
        due.is("38: demand", x.undo(), 1);
        due.is("38: none", x.look(7), 0);
        x.keep();
        x.keep();
        due.is("38: a like one is no act", x.look(9), 2);
        x.nodes(2);
        due.is("38: nodes", x.undo(), 2);
        due.is("38: kept", x.look(8), 1);
        due.is("38: links", x.look(1), 5);
        due.row("38: the way", x, 0, 0);
        due.is("38: keep", x.undo(), 1);
        due.is("38: none kept", x.look(8), 0);
        due.is("38: the text", x.undo(), 0);
        due.is("38: nodes", x.look(0), 2);
        due.is("38: links", x.look(1), 0);
        due.is("38: no way", x.look(4), 0);
    }

    private static void lookers() {
        LabelStacks x = Due.told(DIAMOND);
        Due.way(x, 0, 1);
        Due.labels(x, 9, 205);
        due.is("39: way", x.at(1, 0), 1);
        due.is("39: stack", x.at(1, 1), 205);
        due.is("39: beyond", x.at(2, 0), NONE);
        due.is("39: beyond", x.at(2, 1), NONE);
        due.is("39: below", x.at(-1, 0), NONE);
        due.is("39: below", x.at(-1, 1), NONE);
        due.is("39: another what", x.at(0, 2), NONE);
        due.is("39: another what", x.at(0, -1), NONE);
        x.pop(2);
        x.off(1);
        due.is("39: what went is gone", x.at(1, 0), NONE);
        due.is("39: what went is gone", x.at(0, 1), NONE);
        int[] four = {3, 0, 5, 1};
        for (int what = 0; what < 4; what++) {
            due.is("40: linkOf(4, " + what + ")", x.linkOf(4, what), four[what]);
        }
        due.is("40: another what", x.linkOf(4, 4), NONE);
        due.is("40: another what", x.linkOf(4, -1), NONE);
        due.is("40: no such link", x.linkOf(5, 0), NONE);
        due.is("40: no such link", x.linkOf(-1, 0), NONE);
        due.is("41: none", x.binding(0, 0), NONE);
        due.is("41: none such", x.binding(6, 0), NONE);
        due.is("41: none such", x.binding(-1, 0), NONE);
        due.is("44: another what", x.look(14), NONE);
        due.is("44: another what", x.look(-1), NONE);
    }

    private static void image() {
        LabelStacks x = Due.told(DIAMOND);
        due.is("43: none yet", x.image(false), false);
        due.is("38: acts stay", x.look(9), 1);
        Due.labels(x, 1, 3);
        Due.way(x, 0, 1);
        x.depth(4);
        x.keep();
        x.demand(0, 0, 8);
        x.bind(3, 2);
        due.is("43: taken", x.image(true), true);
        due.is("43: acts stay", x.look(9), 4);
        for (int turn = 0; turn < 2; turn++) {
            x.cost(0, 60);
            x.nodes(9);
            x.depth(11);
            Due.labels(x, 7);
            x.label(8);
            x.label(9);
            Due.feedAll(x, "nodes");
            x.text();
            Due.feedAll(x, "nod");
            due.is("43: gone back to", x.image(false), true);
            int[] then = {4, 5, 31, 4, 2, 2, 8, 1, 1, 0, 3, 2, 0, 3};
            for (int what = 0; what < then.length; what++) {
                due.is("43: look(" + what + ")", x.look(what), then[what]);
            }
            due.row("43: the stack", x, 1, 1, 3);
            due.row("43: the way", x, 0, 0, 1);
            due.is("43: costs", x.far(0, 1), 1);
            due.is("43: the fault stays", x.fault(1), 5);
            due.is("43: no acts", x.undo(), NONE);
            due.is("43: kept", x.take(0), 2);
            due.is("43: the binding", x.binding(3, 11), 3);
            due.is("43: the demand", x.demandOf(0, 2), 2);
            x.end(0);
        }
        x.depth(3);
        due.is("43: another taken", x.image(true), true);
        x.depth(2);
        x.image(false);
        due.is("43: the later one", x.look(3), 3);
    }
}
