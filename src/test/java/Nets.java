/** The networks that the tests by hand have in common. */
final class Nets {
    /** Two ways alike from 0 to 3, and a dear one back. */
    static final String DIAMOND = "nodes 4;link 0 1 1;link 1 3 1;link 0 2 1;link 2 3 1;link 3 0 5;";
    /** To and fro between two nodes, link 0 and link 1. */
    static final String RING = "nodes 2;link 0 1 1;link 1 0 1;";
    /** The same, each link twice (2 like 0, 3 like 1), so that a node's label never covers one. */
    static final String TWIN_RING = RING + "link 0 1 1;link 1 0 1;";
    /** 0 to 4 in a row, each link twice (0 and 1, 2 and 3, 4 and 5, 6 and 7). */
    static final String TWIN_CHAIN = "nodes 5;link 0 1 1;link 0 1 1;link 1 2 1;link 1 2 1;link 2 3 1;link 2 3 1;"
        + "link 3 4 1;link 3 4 1;";

    /** Numbers that can't be for any call: far out, or 0 and 1 again once a byte, a short or an int has wrapped around. */
    static final int[] WILD = {Integer.MIN_VALUE, Integer.MIN_VALUE + 1, -1000, -256, -255, -100, 256, 257, 65536, 65537, 1 << 30,
        Integer.MAX_VALUE - 1, Integer.MAX_VALUE};

    private Nets() {
    }

    /** Something of everything: links up and down, a binding, a demand, a kept way, THE WAY, THE STACK, a fault, acts. */
    static LabelStacks busy() {
        LabelStacks x = new LabelStacks();
        Due.feedAll(x, "nodes 3;nodes");
        x.text();
        Due.feedAll(x, DIAMOND + "link 1 0 7 down;bind 2 at 1:l1 n0;");
        x.text();
        Due.feedAll(x, "nodes 11");
        x.text();
        Due.feedAll(x, "left over");
        Due.labels(x, 1, 3);
        x.demand(5, 0, 8);
        Due.way(x, 0, 1);
        x.keep();
        Due.way(x, 2, 3, 4);
        x.depth(4);
        return x;
    }

    /** To and fro along two links, so many of them. */
    static void toAndFro(LabelStacks x, int links) {
        x.off(x.look(4));
        for (int i = 0; i < links; i++) {
            x.on(i % 2);
        }
    }

    /** Ten nodes in a row, 0 to 9, each link costing so much. */
    static LabelStacks longChain(int cost) {
        LabelStacks x = new LabelStacks();
        x.nodes(10);
        for (int u = 0; u < 9; u++) {
            x.link(u, u + 1, cost);
        }
        return x;
    }
}
