/** THE WAY, how it is written, repairs, counts and ranges: promises 9, 10, 13 to 16 and 28 to 31. */
final class WayBoundaries {
    private static final int NONE = LabelStacks.NONE;
    /** 0 to 1 to 2 and 0 to 2, which costs as much. */
    private static final String TRIANGLE = "nodes 3;link 0 1 1;link 1 2 1;link 0 2 2;";

    private WayBoundaries() {
    }

    private static void writes(Sentences s, String what, LabelStacks x, int... labels) {
        s.is(what, x.write(), labels.length);
        s.row(what, x, 1, labels);
    }

    /** Ten nodes in a row, and link 9 straight from the first to the last. */
    private static LabelStacks chainAndShortCut(int cost) {
        LabelStacks x = Nets.longChain(1);
        x.link(0, 9, cost);
        return x;
    }

    // ---- the terms ----

    static void termWay(Sentences s) {
        s.term("A WAY: 1 .. 16 LINKS, each beginning where the one ahead ends.");
        LabelStacks x = Due.told(Nets.RING);
        s.is("of none nothing is written", x.write(), NONE);
        s.is("one", x.on(0), 1);
        s.is("it is written", x.write(), 1);
        s.is("the same again begins elsewhere", x.on(0), NONE);
        for (int i = 1; i < 16; i++) {
            s.is("link " + i, x.on(i % 2), i + 1);
        }
        s.is("a 17th", x.on(0), NONE);
        s.is("16", x.look(4), 16);
    }

    static void termAtHand(Sentences s) {
        s.term("THE WAY and THE STACK lie at hand (both empty at first).");
        LabelStacks x = new LabelStacks();
        s.is("no links", x.look(4), 0);
        s.is("no labels", x.look(5), 0);
        s.is("no link", x.at(0, 0), NONE);
        s.is("no label", x.at(0, 1), NONE);
        s.is("nothing to go", x.off(1), NONE);
        s.is("nothing to pop", x.pop(1), NONE);
        s.is("nothing to keep", x.keep(), NONE);
    }

    static void termWritten(Sentences s) {
        s.term("WRITTEN is it by a STACK, with which a PACKET where it begins has an EXACT COURSE of just these LINKS, "
            + "HIGH being DEPTH at most.");
        LabelStacks x = Due.told(Nets.TWIN_CHAIN + "bind 0 at 0:l0 l2 l4;bind 1 at 2:l4 l6;");
        Due.way(x, 0, 2, 4, 6);
        x.depth(4);
        writes(s, "four high, depth 4", x, 200, 106);
        s.is("four high", x.high(0), 4);
        s.is("exact", x.exact(0), 1);
        s.is("just these links", x.course(0), 4);
        s.row("just these links", x, 0, 0, 2, 4, 6);
        x.depth(3);
        writes(s, "depth 3", x, 100, 102, 201);
        s.is("three high", x.high(0), 3);
        x.depth(2);
        s.is("depth 2", x.write(), NONE);
        // All at once: its last label a binding, as high as depth when nothing is behind it.
        LabelStacks y = Due.told(Nets.TWIN_CHAIN + "bind 5 at 0:l0 l2 l4 l6;");
        Due.way(y, 0, 2, 4, 6);
        y.depth(4);
        writes(s, "one label, four high", y, 205);
        y.depth(3);
        s.is("not three high", y.write(), NONE);
    }

    static void termFewest(Sentences s) {
        s.term("FEWEST: the STACK with the fewest LABELS by which it is WRITTEN, made of such LABELS alone:");
        // The node's label covers two at once, and then two labels are left; the binding behind the first link covers all.
        LabelStacks x = Due.told("nodes 5;link 0 1 1;link 1 2 1;link 2 3 1;link 2 3 1;link 3 4 1;link 3 4 1;"
            + "bind 0 at 1:l1 l2 l4;");
        Due.way(x, 0, 1, 2, 4);
        writes(s, "not the longest first", x, 1, 200);
        x.unbind(0);
        writes(s, "without it", x, 2, 102, 104);
        LabelStacks y = Nets.longChain(1);
        Due.way(y, 0, 1, 2, 3, 4, 5, 6, 7, 8);
        writes(s, "nine links in one label", y, 9);
    }

    static void termFewestLabels(Sentences s) {
        s.term("at a place of the WAY a LABEL of a NODE, a LINK or a BINDING whose own COURSE from there is EXACT, "
            + "with one LINK at least, and these are the WAY's next ones:");
        LabelStacks x = Due.told(TRIANGLE);
        Due.way(x, 0, 1);
        writes(s, "2 is not sole from 0", x, 1, 2);
        Due.way(x, 2);
        writes(s, "a link whose node's label is not exact", x, 102);
        String[] useless = {"n0", "n0 n0", "l1", "n9", "l0 l2", "l0 n9", "n2", "l0 l1 n1", "l0 l1 l2"};
        for (String row : useless) {
            LabelStacks y = Due.told(TRIANGLE + "link 0 1 1;bind 0 at 0:" + row + ";");
            Due.way(y, 0, 1);
            writes(s, "without a binding of " + row, y, 100, 2);
        }
        String[] useful = {"l0 l1", "n0 l0 l1", "l0 n2", "l0 n1 n2 n2"};
        for (String row : useful) {
            LabelStacks y = Due.told(TRIANGLE + "link 0 1 1;bind 0 at 0:" + row + ";");
            Due.way(y, 0, 1);
            writes(s, "with a binding of " + row, y, 200);
            y.off(1);
            writes(s, "which goes beyond the way's end", y, 100);
        }
        for (String row : new String[] {"l1 l0", "l1 n1", "n0 n1", "n0 l0"}) {
            LabelStacks y = Due.told(Nets.RING + "bind 0 at 1:" + row + ";");
            Nets.toAndFro(y, 16);
            y.depth(12);
            s.is("beyond the end of a full way, " + row, y.write(), 9);
            s.is("the last label", y.at(8, 1), 0);
        }
        LabelStacks z = Due.told(TRIANGLE + "link 0 1 1;bind 0 at 1:l0 l1;");
        Due.way(z, 0, 1);
        writes(s, "a binding held elsewhere", z, 100, 2);
        LabelStacks dear = Due.told("nodes 3;link 0 1 2;link 1 2 2;link 0 1 2;link 0 2 3;bind 0 at 0:n2;");
        Due.way(dear, 0, 1);
        writes(s, "a binding's node that is nearer by another link", dear, 100, 2);
        LabelStacks down = Due.told("nodes 2;link 0 1 1 down;link 0 1 1;bind 0 at 0:n1;");
        Due.way(down, 0);
        s.is("a binding's node by the up link that is like the way's down one", down.write(), LabelStacks.NONE);
        s.is("whose place is told", down.witness(), 0);
    }

    static void termFewestOfSeveral(Sentences s) {
        s.term("of several STACKS the one whose first LABEL covers the most LINKS, of such the least number; "
            + "then the next LABEL, and so on.");
        // 0 to 3 in a row, and straight for as much: two labels, the first up to node 1 or 2.
        LabelStacks x = Due.told("nodes 4;link 0 1 1;link 1 2 1;link 2 3 1;link 0 3 3;");
        Due.way(x, 0, 1, 2);
        writes(s, "the most first", x, 2, 3);
        LabelStacks y = Due.told("nodes 2;link 1 0 1;link 0 1 1;bind 4 at 1:l0;bind 3 at 1:n0;");
        Due.way(y, 0);
        writes(s, "node 0 ahead of link 0 and bindings", y, 0);
        LabelStacks z = Due.told(Nets.TWIN_RING + "bind 4 at 0:l0;bind 3 at 0:l0 n1;");
        Due.way(z, 0);
        writes(s, "a link ahead of bindings", z, 100);
        LabelStacks v = Due.told(Nets.TWIN_RING + "bind 4 at 0:l0 l1;bind 3 at 0:l0 l1;bind 5 at 0:l0 l1;");
        Due.way(v, 0, 1);
        writes(s, "the least binding", v, 203);
        Due.way(v, 0, 1, 0, 1);
        writes(s, "and so on", v, 203, 203);
        Due.way(v, 0, 1, 0);
        writes(s, "the most first, then the link", v, 203, 100);
        LabelStacks w = Due.told(Nets.TWIN_RING + "bind 1 at 1:l1 l0;bind 2 at 0:l0;bind 0 at 0:l0;");
        Due.way(w, 0, 1, 0);
        writes(s, "the next one covers the most", w, 100, 201);
    }

    static void termRestByItsOwn(Sentences s) {
        s.term("(At each place the rest is WRITTEN by its own FEWEST.)");
        LabelStacks x = Due.told("nodes 6;link 0 1 1;link 1 2 1;link 2 3 1;link 0 3 3;link 3 4 1;link 4 5 1;link 3 5 2;"
            + "link 2 3 9;bind 0 at 1:l1 l2;bind 1 at 3:l4 l5;");
        Due.way(x, 0, 1, 2, 4, 5);
        s.is("the whole", x.write(), 3);
        s.is("its first", x.at(0, 1), 2);
        int[] whole = Seen.row(x, 1);
        Due.way(x, 2, 4, 5);
        s.is("the rest behind node 2", x.write(), 2);
        for (int i = 1; i < whole.length; i++) {
            s.is("as in the whole, " + i, x.at(i - 1, 1), whole[i]);
        }
    }

    static void termWitness(Sentences s) {
        s.term("WITNESS: if there is none, the last place of the WAY (0 .. its LINKS less 1) from which the rest "
            + "can't be WRITTEN so.");
        LabelStacks x = Due.told(Nets.TWIN_RING);
        Nets.toAndFro(x, 16);
        for (int d = 1; d <= 12; d++) {
            x.depth(d);
            s.is("the last " + d + " can be", x.witness(), 15 - d);
        }
        x.state(0, false);
        s.is("the last link that is down", x.witness(), 14);
        x.state(1, false);
        s.is("the last place", x.witness(), 15);
        Due.way(x, 0);
        s.is("one link", x.witness(), 0);
        LabelStacks y = Due.told(Nets.TWIN_CHAIN + "bind 0 at 0:l0 l2 l4;");
        y.depth(3);
        Due.way(y, 0, 2, 4);
        s.is("all can be", y.witness(), NONE);
        y.depth(2);
        s.is("three high", y.witness(), 0);
    }

    static void termGreedy(Sentences s) {
        s.term("GREEDY: without BINDINGS and DEPTH: place by place the LABEL of the NODE that covers the most LINKS, "
            + "if one covers any, else that of the LINK (DOWN ones can't be).");
        LabelStacks x = Due.told(Nets.TWIN_RING + "bind 0 at 0:l0 l1;");
        Nets.toAndFro(x, 16);
        x.depth(1);
        s.is("sixteen, by links", x.greedy(), 16);
        x.off(13);
        s.is("three, by links", x.greedy(), 3);
        Nets.toAndFro(x, 16);
        x.state(2, false);
        x.state(3, false);
        s.is("sixteen, by nodes", x.greedy(), 16);
        x.state(1, false);
        s.is("down ones can't be", x.greedy(), NONE);
        LabelStacks y = Nets.longChain(1);
        Due.way(y, 0, 1, 2, 3, 4, 5, 6, 7, 8);
        s.is("the most at once", y.greedy(), 1);
        LabelStacks z = Due.told("nodes 4;link 0 1 1;link 1 2 1;link 2 3 1;link 0 3 3;");
        Due.way(z, 0, 1, 2);
        s.is("two and one", z.greedy(), 2);
    }

    static void termRepair(Sentences s) {
        s.term("REPAIR of a LINK l to a NODE v: the WAY of the least COSTS by UP LINKS but l from where l begins to v "
            + "(of several the first as a row of LINKS), WRITTEN as all is now, l as it is.");
        LabelStacks x = Due.told("nodes 4;link 0 3 1;link 0 1 2;link 0 2 2;link 2 3 2;link 1 3 2;link 0 3 9;link 0 3 3 down;");
        s.is("the least costs", x.repair(0, 3), 2);
        s.row("the first as a row: 1, 4 ahead of 2, 3", x, 0, 1, 4);
        s.row("not in one label, as l is up", x, 1, 1, 3);
        x.state(6, true);
        s.is("an up one more", x.repair(0, 3), 1);
        s.row("it", x, 0, 6);
        s.row("its own label", x, 1, 106);
        x.state(0, false);
        s.is("l down", x.repair(0, 3), 1);
        s.row("in one label of the node", x, 1, 3);
        s.is("round a link to another node", x.repair(1, 3), 1);
        s.row("it", x, 0, 6);
        s.is("to a node that l does not lead to", x.repair(0, 2), 1);
        s.row("it", x, 0, 2);
        LabelStacks y = Due.told("nodes 3;link 0 1 1;link 0 1 1;link 1 2 1;link 1 2 1;link 0 2 9;");
        s.is("of several, link by link", y.repair(4, 2), 2);
        s.row("the first of four", y, 0, 0, 2);
        s.is("without l itself, which is the first", y.repair(0, 2), 2);
        s.row("the first of two", y, 0, 1, 2);
    }

    static void termGuarded(Sentences s) {
        s.term("GUARDED is a place of THE WAY whose LINK has a REPAIR to the NODE where THE WAY ends "
            + "(with one LINK at least) that can be WRITTEN.");
        LabelStacks x = Due.told(Nets.TWIN_RING);
        Nets.toAndFro(x, 16);
        s.is("none with a link at least from where it ends", x.guards(0), 0xAAAA);
        Nets.toAndFro(x, 15);
        s.is("the other places", x.guards(0), 0x5555);
        x.state(2, false);
        s.is("no repair", x.guards(0), 0);
        LabelStacks y = Due.told(TRIANGLE + "link 0 1 1;link 1 2 1;");
        Due.way(y, 2);
        y.depth(2);
        s.is("two labels", y.guards(0), 1);
        y.depth(1);
        s.is("that can't be written", y.guards(0), 0);
    }

    static void termWritable(Sentences s) {
        s.term("WRITABLE from a to b (unlike) by k and d: WAYS of k LINKS at most (1 .. 6), UP ones, that are at no NODE twice, "
            + "whose FEWEST has d LABELS at most.");
        LabelStacks x = Due.told("nodes 4;link 0 1 1;link 1 0 1;link 1 2 1;link 2 1 1;link 2 3 1;link 3 2 1;link 0 3 2 down;");
        s.is("at no node twice", x.writable(0, 3, 6, 12), 1);
        s.is("at no node twice, not through the end", x.writable(0, 2, 6, 12), 1);
        s.is("two links are too few", x.writable(0, 3, 2, 12), 0);
        s.is("three are enough", x.writable(0, 3, 3, 12), 1);
        s.is("like ones", x.writable(0, 0, 6, 12), NONE);
        x.state(6, true);
        s.is("up ones", x.writable(0, 3, 6, 12), 2);
        s.is("of one link", x.writable(0, 3, 1, 1), 1);
        // Round by 1 and 2 takes two labels, up to 2 and up to 3, since straight to 3 costs less.
        s.is("of one label", x.writable(0, 3, 6, 1), 1);
        s.is("of two", x.writable(0, 3, 6, 2), 2);
        x.depth(1);
        s.is("as deep as may be", x.writable(0, 3, 6, 2), 1);
        // Five nodes, each with a link to each: straight, or by one, two or three of the others.
        LabelStacks z = new LabelStacks();
        z.nodes(5);
        for (int i = 0; i < 25; i++) {
            z.link(i / 5, i % 5, 1);
        }
        for (int a = 0; a < 5; a++) {
            s.is("at no node twice, from " + a, z.writable(a, (a + 2) % 5, 6, 12), 1 + 3 + 6 + 6);
            s.is("three links at most, from " + a, z.writable(a, (a + 1) % 5, 3, 12), 1 + 3 + 6);
        }
        LabelStacks v = Due.told(Nets.TWIN_CHAIN + "bind 0 at 0:l0 l2 l4;");
        s.is("sixteen of four labels", v.writable(0, 4, 4, 4), 16);
        s.is("none of three", v.writable(1, 4, 4, 2), 0);
        s.is("a binding makes two of them shorter", v.writable(0, 4, 4, 2), 2);
        v.depth(3);
        s.is("and too high", v.writable(0, 4, 4, 4), 0);
        LabelStacks y = Nets.longChain(99);
        s.is("six links", y.writable(0, 6, 6, 1), 1);
        s.is("seven links can't be", y.writable(0, 7, 6, 1), 0);
        s.is("five are too few", y.writable(0, 6, 5, 1), 0);
    }

    static void termStays(Sentences s) {
        s.term("STAYS: COSTS of a LINK (1 .. 99, one behind the other, with the one it has; all else as it is) by which "
            + "the FEWEST of THE WAY has as many LABELS as now (or there is none, as now).");
        // Three labels while link 0 is the one best to 0, four while link 3 is as good, three once link 3 is.
        LabelStacks x = Due.told("nodes 3;link 1 0 1;link 0 2 6;link 0 1 6;link 1 0 8;link 2 1 7;");
        Due.way(x, 0, 1, 4, 3);
        int[][] ranges = {{1, 1, 7}, {7, 1, 7}, {8, 8, 8}, {9, 9, 99}, {50, 9, 99}, {99, 9, 99}};
        for (int[] r : ranges) {
            x.cost(0, r[0]);
            s.is("the least, from " + r[0], x.stays(0, 0), r[1]);
            s.is("the greatest, from " + r[0], x.stays(0, 1), r[2]);
            s.is("it costs what it did", x.linkOf(0, 2), r[0]);
        }
        x.cost(0, 8);
        x.depth(3);
        s.is("there is none, as now", x.stays(0, 0), 8);
        s.is("there is none, as now", x.stays(0, 1), 8);
        x.depth(2);
        s.is("there is none at all", x.stays(0, 0), 1);
        s.is("there is none at all", x.stays(0, 1), 99);
    }

    // ---- promises 9 and 10 ----

    static void onBehind(Sentences s) {
        s.of(9, "A LINK comes behind THE WAY: how many it has.");
        LabelStacks x = Due.told(Nets.RING + "link 1 0 5 down;");
        s.is("the first may begin anywhere", x.on(1), 1);
        s.is("the next", x.on(0), 2);
        s.is("a down one, the last of all links", x.on(2), 3);
        s.row("all", x, 0, 1, 0, 2);
        s.is("no act", x.look(9), 1);
    }

    static void onOfNone(Sentences s) {
        s.of(9, "NONE if there is none such,");
        LabelStacks x = Nets.busy();
        s.none("-1", x, y -> y.on(-1));
        s.none("m", x, y -> y.on(6));
        x.off(3);
        s.none("m, THE WAY being empty", x, y -> y.on(6));
        s.none("-1, THE WAY being empty", x, y -> y.on(-1));
        for (int wild : Nets.WILD) {
            s.is("on(" + wild + ")", x.on(wild), NONE);
        }
        LabelStacks z = new LabelStacks();
        s.none("no links", z, y -> y.on(0));
    }

    static void onElsewhere(Sentences s) {
        s.of(9, "it begins elsewhere,");
        LabelStacks x = Due.told(Nets.DIAMOND);
        x.on(0);
        for (int l : new int[] {0, 2, 3, 4}) {
            s.none("link " + l, x, y -> y.on(l));
        }
        s.is("where it ends", x.on(1), 2);
        x.off(2);
        s.is("an empty one ends nowhere", x.on(4), 1);
    }

    static void onSeventeenth(Sentences s) {
        s.of(9, "or there are 16.");
        LabelStacks x = Due.told(Nets.RING);
        Nets.toAndFro(x, 15);
        s.is("the sixteenth", x.on(1), 16);
        s.none("a 17th", x, y -> y.on(0));
        x.off(1);
        s.is("one more when one is gone", x.on(1), 16);
    }

    static void offLast(Sentences s) {
        s.of(10, "The last n LINKS of THE WAY go: how many are left.");
        LabelStacks x = Due.told(Nets.DIAMOND);
        s.is("none of none", x.off(0), 0);
        Due.way(x, 0, 1, 4, 2);
        s.is("none", x.off(0), 4);
        s.is("one", x.off(1), 3);
        s.row("the last went", x, 0, 0, 1, 4);
        s.is("two", x.off(2), 1);
        s.row("the first is left", x, 0, 0);
        s.is("just as many as there are", x.off(1), 0);
        Due.way(x, 0, 1);
        s.is("all at once", x.off(2), 0);
        s.is("no act", x.look(9), 1);
    }

    static void offTooMany(Sentences s) {
        s.of(10, "NONE if there are not so many, or n is below 0.");
        LabelStacks x = Nets.busy();
        s.none("one too many", x, y -> y.off(4));
        s.none("-1", x, y -> y.off(-1));
        s.none("17", x, y -> y.off(17));
        for (int wild : Nets.WILD) {
            s.is("off(" + wild + ")", x.off(wild), NONE);
        }
        s.row("all are there", x, 0, 2, 3, 4);
        x.off(3);
        s.none("one of none", x, y -> y.off(1));
    }

    // ---- promises 13 and 14 ----

    static void writeFewest(Sentences s) {
        s.of(13, "THE STACK is the FEWEST of THE WAY: how many LABELS.");
        LabelStacks x = Due.told(Nets.RING);
        Due.labels(x, 9, 9, 9);
        Due.way(x, 0);
        writes(s, "one, in place of three", x, 1);
        x.depth(12);
        Nets.toAndFro(x, 12);
        writes(s, "twelve", x, 1, 0, 1, 0, 1, 0, 1, 0, 1, 0, 1, 0);
        s.is("twelve again, on a full stack", x.write(), 12);
        s.is("no act", x.look(9), 1);
        s.is("the way stays", x.look(4), 12);
        LabelStacks y = Nets.longChain(2);
        y.link(9, 0, 1);
        Due.way(y, 0, 1, 2, 3, 4, 5, 6, 7, 8, 9, 0, 1, 2, 3, 4, 5);
        y.depth(2);
        writes(s, "sixteen links in two labels", y, 9, 6);
    }

    static void writeNone(Sentences s) {
        s.of(13, "NONE if there is none (THE WAY is empty, too); THE STACK stays then.");
        LabelStacks x = Nets.busy();
        x.off(3);
        s.none("empty", x, y -> y.write());
        Due.way(x, 0, 5);
        s.none("a down link", x, y -> y.write());
        LabelStacks z = Due.told(Nets.RING);
        z.depth(12);
        Nets.toAndFro(z, 13);
        s.none("thirteen labels", z, y -> y.write());
        Nets.toAndFro(z, 3);
        z.depth(2);
        s.none("one deeper than may be", z, y -> y.write());
        z.depth(3);
        s.is("as deep as may be", z.write(), 3);
    }

    static void witnessPlace(Sentences s) {
        s.of(14, "WITNESS of THE WAY.");
        LabelStacks x = Due.told(Nets.RING);
        Nets.toAndFro(x, 6);
        s.is("the first place", x.witness(), 0);
        Nets.toAndFro(x, 16);
        s.is("eleven of sixteen", x.witness(), 10);
        x.state(1, false);
        s.is("the last place", x.witness(), 15);
        s.is("the way stays", x.look(4), 16);
        s.is("the stack stays", x.look(5), 0);
    }

    static void witnessNone(Sentences s) {
        s.of(14, "NONE if it can be WRITTEN, or is empty.");
        LabelStacks x = Due.told(Nets.RING);
        s.none("empty", x, y -> y.witness());
        Nets.toAndFro(x, 5);
        s.none("just as deep as may be", x, y -> y.witness());
        Nets.toAndFro(x, 1);
        s.none("one link", x, y -> y.witness());
    }

    // ---- promises 15 and 16 ----

    static void greedyCount(Sentences s) {
        s.of(15, "How many LABELS GREEDY takes for THE WAY (0 for an empty one).");
        LabelStacks x = Due.told(Nets.RING);
        s.is("an empty one", x.greedy(), 0);
        Nets.toAndFro(x, 1);
        s.is("one", x.greedy(), 1);
        Nets.toAndFro(x, 16);
        s.is("sixteen, more than a stack has", x.greedy(), 16);
        s.is("the stack stays", x.look(5), 0);
        x.state(0, false);
        x.off(16);
        s.is("an empty one needs none", x.greedy(), 0);
    }

    static void greedyDown(Sentences s) {
        s.of(15, "NONE if a LINK that it needs is DOWN.");
        for (int place = 0; place < 3; place++) {
            LabelStacks x = Due.told("nodes 4;link 0 1 1;link 1 2 1;link 2 3 1;");
            Due.way(x, 0, 1, 2);
            x.state(place, false);
            s.none("at place " + place, x, y -> y.greedy());
            // The way to the same node by another link does not help: it is not THE WAY's.
            x.link(place, place + 1, 1);
            s.none("at place " + place + ", with another link", x, y -> y.greedy());
            x.state(place, true);
            s.is("up again", x.greedy() > 0, true);
        }
    }

    static void coversMost(Sentences s) {
        s.of(16, "How many LINKS of THE WAY from its i-th on (0 on) the LABEL of a NODE covers that covers the most "
            + "(0: none does).");
        LabelStacks x = Nets.longChain(1);
        Due.way(x, 0, 1, 2, 3, 4, 5, 6, 7, 8);
        for (int i = 0; i < 9; i++) {
            s.is("to the end from " + i, x.covers(i), 9 - i);
        }
        LabelStacks y = Due.told(Nets.TWIN_RING);
        Nets.toAndFro(y, 16);
        s.is("none, the first", y.covers(0), 0);
        s.is("none, the last", y.covers(15), 0);
        y.state(2, false);
        s.is("to and fro is no shortest way", y.covers(0), 1);
        y.state(0, false);
        s.is("a down one", y.covers(0), 0);
        LabelStacks z = Due.told(TRIANGLE);
        Due.way(z, 0, 1);
        s.is("up to one of two alike", z.covers(0), 1);
        z.cost(2, 3);
        s.is("all", z.covers(0), 2);
    }

    static void coversNoPlace(Sentences s) {
        s.of(16, "NONE if there is no such place.");
        LabelStacks x = Nets.busy();
        s.none("-1", x, y -> y.covers(-1));
        s.none("as many as there are", x, y -> y.covers(3));
        for (int wild : Nets.WILD) {
            s.is("covers(" + wild + ")", x.covers(wild), NONE);
        }
        s.is("the last one", x.covers(2), 1);
        x.off(3);
        s.none("empty", x, y -> y.covers(0));
    }

    // ---- promise 28 ----

    static void repairAndStack(Sentences s) {
        s.of(28, "THE WAY is the REPAIR's, THE STACK is its FEWEST: how many LABELS.");
        LabelStacks x = chainAndShortCut(99);
        Due.way(x, 9);
        Due.labels(x, 1, 2);
        s.is("nine links, one label", x.repair(9, 9), 1);
        s.row("the way", x, 0, 0, 1, 2, 3, 4, 5, 6, 7, 8);
        s.row("the stack", x, 1, 9);
        x.cost(9, 1);
        s.is("two labels, as l is up and cheap", x.repair(9, 9), 2);
        s.row("the stack", x, 1, 8, 9);
        s.is("one link", x.repair(9, 1), 1);
        s.row("the way", x, 0, 0);
        s.is("it is no act", x.look(9), 6);
        x.depth(2);
        s.is("just as deep as may be", x.repair(9, 9), 2);
    }

    static void repairOfNone(Sentences s) {
        s.of(28, "NONE if there are none such,");
        LabelStacks x = Nets.busy();
        s.none("link -1", x, y -> y.repair(-1, 0));
        s.none("link m", x, y -> y.repair(6, 0));
        s.none("node -1", x, y -> y.repair(0, -1));
        s.none("node n", x, y -> y.repair(0, 4));
        for (int wild : Nets.WILD) {
            s.is("link " + wild, x.repair(wild, 3), NONE);
            s.is("node " + wild, x.repair(0, wild), NONE);
        }
        LabelStacks z = new LabelStacks();
        s.none("no links", z, y -> y.repair(0, 1));
    }

    static void repairNoWay(Sentences s) {
        s.of(28, "no such WAY,");
        LabelStacks x = Nets.busy();
        s.none("link 4 alone leads from 3", x, y -> y.repair(4, 0));
        s.none("link 0 alone leads to 1", x, y -> y.repair(0, 1));
        x.state(2, false);
        s.none("by a down one alone", x, y -> y.repair(0, 3));
    }

    static void repairNoLinks(Sentences s) {
        s.of(28, "it has more than 16 LINKS or none,");
        LabelStacks x = Nets.busy();
        s.none("where l begins", x, y -> y.repair(0, 0));
        s.none("where l begins, the down one", x, y -> y.repair(5, 1));
        // No way of the least costs comes to a node twice: nine links are the most.
        LabelStacks z = chainAndShortCut(1);
        s.is("nine links", z.repair(9, 9), 2);
        s.is("nine links", z.look(4), 9);
    }

    static void repairNotWritten(Sentences s) {
        s.of(28, "or it can't be WRITTEN (all stays then).");
        LabelStacks x = Nets.busy();
        x.depth(1);
        s.none("two labels, and one may be", x, y -> y.repair(0, 3));
        s.row("the way stays", x, 0, 2, 3, 4);
        s.row("the stack stays", x, 1, 1, 3);
        x.depth(2);
        s.is("two may be", x.repair(0, 3), 2);
    }

    // ---- promise 29 ----

    static void guardsWhat(Sentences s) {
        s.of(29, "Places of THE WAY that are GUARDED what 0 they (a set), 1 the most LABELS that the REPAIR of one takes "
            + "(0 without), 2 the greatest COSTS of THE WAY as far as one and of its REPAIR, together (0 without).");
        // Round 0: link 3 (9). Behind it, round 1: link 4 (5). Behind both, round 2: links 5, 0, 4 (8), in two labels.
        LabelStacks x = Due.told("nodes 4;link 0 1 1;link 1 2 1;link 2 3 1;link 0 3 9;link 1 3 5;link 2 0 2;");
        Due.way(x, 0, 1, 2);
        s.is("all", x.guards(0), 7);
        s.is("the most labels", x.guards(1), 2);
        s.is("costs as far as the place, and round it", x.guards(2), 10);
        x.state(5, false);
        s.is("two", x.guards(0), 3);
        s.is("one label", x.guards(1), 1);
        s.is("9 at the first, 6 behind it", x.guards(2), 9);
        x.state(4, false);
        x.state(3, false);
        s.is("without, 0", x.guards(0), 0);
        s.is("without, 1", x.guards(1), 0);
        s.is("without, 2", x.guards(2), 0);
        s.row("the way stays", x, 0, 0, 1, 2);
        s.is("the stack stays", x.look(5), 0);
        LabelStacks y = Due.told(Nets.TWIN_RING);
        Nets.toAndFro(y, 16);
        s.is("the last of sixteen places", y.guards(0) >> 15, 1);
        s.is("its costs", y.guards(2), 16);
    }

    static void guardsNone(Sentences s) {
        s.of(29, "NONE if THE WAY is empty, or another what.");
        LabelStacks x = Nets.busy();
        s.none("what -1", x, y -> y.guards(-1));
        s.none("what 3", x, y -> y.guards(3));
        for (int wild : Nets.WILD) {
            s.is("what " + wild, x.guards(wild), NONE);
        }
        x.off(3);
        for (int what = 0; what < 3; what++) {
            int which = what;
            s.none("empty, " + what, x, y -> y.guards(which));
        }
    }

    // ---- promise 30 ----

    static void writableCount(Sentences s) {
        s.of(30, "How many are WRITABLE.");
        LabelStacks x = new LabelStacks();
        x.nodes(7);
        for (int i = 0; i < 30; i++) {
            x.link(i / 5, i / 5 + 1, 7);
        }
        s.is("six labels are deeper than may be", x.writable(0, 6, 6, 6), 0);
        x.depth(6);
        s.is("very many", x.writable(0, 6, 6, 6), 15625);
        s.is("none of five labels", x.writable(0, 6, 6, 5), 0);
        s.is("none back", x.writable(6, 0, 6, 12), 0);
        s.is("the smallest k and d", x.writable(0, 1, 1, 1), 5);
        s.is("the greatest k and d", x.writable(0, 1, 6, 12), 5);
        LabelStacks y = new LabelStacks();
        s.is("without links", y.writable(0, 1, 6, 12), 0);
        LabelStacks z = Due.told(Nets.RING);
        Nets.toAndFro(z, 16);
        z.witness();
        s.is("whatever was written ahead", z.writable(0, 1, 6, 1), 1);
        s.is("the way stays", x.look(4), 0);
        s.is("the stack stays", x.look(5), 0);
    }

    static void writableThatCantBe(Sentences s) {
        s.of(30, "NONE if one can't be (d 1 .. 12).");
        LabelStacks x = Nets.busy();
        s.none("a -1", x, y -> y.writable(-1, 3, 2, 2));
        s.none("a n", x, y -> y.writable(4, 3, 2, 2));
        s.none("b -1", x, y -> y.writable(0, -1, 2, 2));
        s.none("b n", x, y -> y.writable(0, 4, 2, 2));
        s.none("like ones", x, y -> y.writable(3, 3, 2, 2));
        s.none("k 0", x, y -> y.writable(0, 3, 0, 2));
        s.none("k 7", x, y -> y.writable(0, 3, 7, 2));
        s.none("d 0", x, y -> y.writable(0, 3, 2, 0));
        s.none("d 13", x, y -> y.writable(0, 3, 2, 13));
        for (int wild : Nets.WILD) {
            s.is("a " + wild, x.writable(wild, 3, 2, 2), NONE);
            s.is("b " + wild, x.writable(0, wild, 2, 2), NONE);
            s.is("k " + wild, x.writable(0, 3, wild, 2), NONE);
            s.is("d " + wild, x.writable(0, 3, 2, wild), NONE);
        }
    }

    // ---- promise 31 ----

    static void staysLeastAndGreatest(Sentences s) {
        s.of(31, "STAYS what 0 the least of them, 1 the greatest.");
        LabelStacks x = Due.told("nodes 3;link 0 2 5;link 0 1 2;link 1 2 2;");
        Due.way(x, 1, 2);
        s.is("down to 1", x.stays(1, 0), 1);
        s.is("while the sum is below 5", x.stays(1, 1), 2);
        s.is("while it is above 4", x.stays(0, 0), 5);
        s.is("up to 99", x.stays(0, 1), 99);
        LabelStacks y = chainAndShortCut(9);
        Due.way(y, 0, 1, 2, 3, 4, 5, 6, 7, 8);
        s.is("ten nodes, two labels: down to 1", y.stays(9, 0), 1);
        s.is("ten nodes, two labels: while it costs no more", y.stays(9, 1), 9);
        s.is("of the last one of the way, one label below 1", y.stays(8, 0), 1);
        s.is("and two on", y.stays(8, 1), 99);
        x.state(0, false);
        s.is("a down link, the least", x.stays(0, 0), 1);
        s.is("a down link, the greatest", x.stays(0, 1), 99);
        s.is("the only way, the least", x.stays(1, 0), 1);
        s.is("the only way, the greatest", x.stays(1, 1), 99);
        s.is("no act", x.look(9), 2);
        s.is("costs are what they were", x.far(0, 2), 4);
        s.row("the way stays", x, 0, 1, 2);
        s.is("the stack stays", x.look(5), 0);
    }

    static void staysNone(Sentences s) {
        s.of(31, "NONE if there is no such LINK, THE WAY is empty, or another what.");
        LabelStacks x = Nets.busy();
        s.none("link -1", x, y -> y.stays(-1, 0));
        s.none("link m", x, y -> y.stays(6, 0));
        s.none("what -1", x, y -> y.stays(0, -1));
        s.none("what 2", x, y -> y.stays(0, 2));
        s.none("what 2 of a down link", x, y -> y.stays(5, 2));
        for (int wild : Nets.WILD) {
            s.is("link " + wild, x.stays(wild, 0), NONE);
            s.is("what " + wild, x.stays(0, wild), NONE);
        }
        x.off(3);
        s.none("empty", x, y -> y.stays(0, 0));
        s.none("empty", x, y -> y.stays(0, 1));
        s.none("empty, of a down link", x, y -> y.stays(5, 0));
    }
}
