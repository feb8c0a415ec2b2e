/** Packets, their shares, and what demands lay on links: promises 11, 12 and 20 to 27. */
final class PacketBoundaries {
    private static final int NONE = LabelStacks.NONE;
    /** To and fro three times, and back to 0. */
    private static final String LAPS = Nets.RING + "bind 0 at 0:l0 l1 l0 l1 l0 l1;";

    private PacketBoundaries() {
    }

    private static void shareIs(Sentences s, String what, LabelStacks x, int node, int link, long above, long below) {
        s.is(what + ", above", x.share(node, link, 0), above);
        s.is(what + ", below", x.share(node, link, 1), below);
    }

    private static void loadIs(Sentences s, String what, LabelStacks x, int link, long above, long below) {
        s.is(what + ", above", x.load(link, 0), above);
        s.is(what + ", below", x.load(link, 1), below);
    }

    // ---- the terms ----

    static void termStack(Sentences s) {
        s.term("A STACK: 0 .. 12 LABELS.");
        LabelStacks x = Due.told(Nets.RING);
        s.is("none", x.look(5), 0);
        for (int i = 1; i <= 12; i++) {
            s.is("label " + i, x.label(i % 2), i);
        }
        s.is("a 13th", x.label(1), NONE);
        s.is("12", x.look(5), 12);
        s.is("a packet goes by all of them", x.share(0, 0, 0), 6);
        s.is("a demand has all of them", x.demand(0, 0, 1), true);
        s.is("12", x.demandOf(0, 2), 12);
    }

    static void termPacket(Sentences s) {
        s.term("A PACKET is at a NODE and has a STACK; by its first LABEL, till there is none:");
        LabelStacks x = Due.told(Nets.DIAMOND);
        for (int v = 0; v < 4; v++) {
            s.is("without labels it stays at " + v, x.ends(v), v);
        }
        Due.labels(x, 100, 101);
        s.is("the first first", x.ends(0), 3);
        Due.labels(x, 101, 100);
        s.is("not the last first", x.ends(0), -2);
        s.row("the stack at hand stays", x, 1, 101, 100);
    }

    static void termNodeLabel(Sentences s) {
        s.term("NODE v: it goes ON to v, till it is there (where there are several LINKS, in equal SHARES along each); "
            + "then the LABEL is gone.");
        LabelStacks x = Due.told("nodes 4;link 0 1 1;link 0 1 1;link 0 2 1;link 1 3 1;link 2 3 1;link 0 3 3;");
        Due.labels(x, 3);
        for (int l = 0; l < 3; l++) {
            shareIs(s, "along each link, not to each node, " + l, x, 0, l, 1, 3);
        }
        shareIs(s, "two of three", x, 0, 3, 2, 3);
        shareIs(s, "one of three", x, 0, 4, 1, 3);
        shareIs(s, "not along a dearer one", x, 0, 5, 0, 1);
        s.is("till it is there", x.ends(0), 3);
        s.is("it is there already", x.ends(3), 3);
        shareIs(s, "it does not move", x, 3, 3, 0, 1);
        Due.labels(x, 3, 3, 3);
        s.is("then the label is gone", x.ends(0), 3);
        shareIs(s, "once alone", x, 0, 4, 1, 3);
        // Half of it comes to 2 straight, half by 1; all of it goes on from 2.
        LabelStacks y = Due.told("nodes 4;link 0 1 1;link 0 2 2;link 1 2 1;link 2 3 1;");
        Due.labels(y, 3);
        shareIs(s, "what comes together goes on together", y, 0, 3, 1, 1);
        LabelStacks z = Due.told("nodes 4;link 3 2 1;link 3 1 2;link 2 1 1;link 1 0 1;");
        Due.labels(z, 0);
        shareIs(s, "numbered the other way", z, 3, 3, 1, 1);
    }

    static void termNodeDropped(Sentences s) {
        s.term("It is DROPPED if FAR is none, or there is no such NODE.");
        LabelStacks x = Due.told(Nets.DIAMOND);
        Due.labels(x, 4);
        s.is("node n", x.ends(0), -2);
        Due.labels(x, 9);
        s.is("node 9", x.ends(0), -2);
        x.state(4, false);
        Due.labels(x, 0);
        s.is("no far", x.ends(3), -2);
        s.is("no far from there", x.ends(1), -2);
        s.is("there, without far needed", x.ends(0), 0);
        x.nodes(10);
        Due.labels(x, 9);
        s.is("node 9 where it is, the packet there", x.ends(9), 9);
    }

    static void termLinkLabel(Sentences s) {
        s.term("LINK l: along it, the LABEL is gone.");
        LabelStacks x = Due.told("nodes 2;link 0 1 99;link 0 1 1;link 1 0 1;");
        Due.labels(x, 100);
        s.is("along it", x.ends(0), 1);
        shareIs(s, "along it, though it is dear", x, 0, 0, 1, 1);
        Due.labels(x, 100, 102, 100);
        s.is("the label is gone each time", x.ends(0), 1);
        shareIs(s, "twice", x, 0, 0, 2, 1);
    }

    static void termLinkDropped(Sentences s) {
        s.term("It is DROPPED if there is no such LINK, it is DOWN, or begins elsewhere.");
        LabelStacks x = Due.told("nodes 2;link 0 1 1;link 1 0 1 down;");
        Due.labels(x, 102);
        s.is("link m", x.ends(0), -2);
        Due.labels(x, 129);
        s.is("link 29", x.ends(0), -2);
        Due.labels(x, 101);
        s.is("down", x.ends(1), -2);
        Due.labels(x, 100);
        s.is("begins elsewhere", x.ends(1), -2);
        s.is("begins here", x.ends(0), 1);
        x.state(1, true);
        Due.labels(x, 101);
        s.is("up", x.ends(1), 0);
    }

    static void termBindingLabel(Sentences s) {
        s.term("BINDING b: its LABELS are there instead, ahead of the others.");
        LabelStacks x = Due.told(Nets.DIAMOND + "bind 0 at 0:l0 l1 l4;bind 5 at 0:n2;");
        Due.labels(x, 200, 102);
        s.is("ahead of the others, in their order", x.ends(0), 2);
        shareIs(s, "its last one", x, 0, 4, 1, 1);
        Due.labels(x, 205);
        s.is("the last binding", x.ends(0), 2);
        s.is("one label instead of one", x.high(0), 1);
        Due.labels(x, 200, 200);
        shareIs(s, "twice", x, 0, 0, 2, 1);
    }

    static void termBindingDropped(Sentences s) {
        s.term("It is DROPPED if there is none, or it is held elsewhere.");
        LabelStacks x = Due.told(Nets.DIAMOND + "bind 0 at 1:n3;");
        Due.labels(x, 200);
        s.is("held elsewhere", x.ends(0), -2);
        s.is("held here", x.ends(1), 3);
        Due.labels(x, 205);
        s.is("none", x.ends(1), -2);
        x.unbind(0);
        Due.labels(x, 200);
        s.is("none any more", x.ends(1), -2);
    }

    static void termSharesTogether(Sentences s) {
        s.term("All SHARES come together at the end of each LABEL of a NODE, so that it ends at one NODE, "
            + "or is DROPPED at one LABEL.");
        LabelStacks x = Due.told(Nets.DIAMOND);
        Due.labels(x, 3, 104);
        s.is("at one node", x.ends(0), 0);
        shareIs(s, "all of it goes on", x, 0, 4, 1, 1);
        Due.labels(x, 3, 103);
        s.is("dropped behind the node, not where a share came by", x.ends(0), -3);
        Due.labels(x, 3, 101);
        s.is("dropped behind the node, not where a share came by", x.ends(0), -3);
    }

    static void termCourse(Sentences s) {
        s.term("COURSE of it: EXACT, if it is not DROPPED and each LABEL of a NODE was SOLE as it came to be the first "
            + "(or the PACKET was there): then it has LINKS one behind the other.");
        LabelStacks x = Due.told(Nets.DIAMOND);
        Due.labels(x, 1, 3);
        s.is("sole from 1, not from 0: it came to be the first at 1", x.exact(0), 1);
        s.is("one behind the other", x.course(0), 2);
        s.row("these", x, 0, 0, 1);
        Due.labels(x, 3, 3);
        s.is("not sole", x.exact(0), 0);
        s.is("the packet was there", x.exact(3), 1);
        Due.labels(x, 1, 3, 100);
        s.is("dropped, though all was sole", x.exact(0), 0);
        Due.labels(x, 3, 0, 1);
        s.is("the first alone is not sole", x.exact(0), 0);
        LabelStacks y = Due.told("nodes 2;link 0 1 1;link 0 1 1;");
        Due.labels(y, 101);
        s.is("a link's label needs no sole one", y.exact(0), 1);
    }

    static void termHigh(Sentences s) {
        s.term("HIGH: the most LABELS that it ever has.");
        LabelStacks x = Due.told(LAPS + "bind 1 at 0:n0;");
        Due.labels(x, 200);
        s.is("six", x.high(0), 6);
        Due.labels(x, 201);
        s.is("one instead of one", x.high(0), 1);
        Due.labels(x, 0, 0, 0, 0, 0, 0, 0, 0, 0, 0, 0, 200);
        s.is("twelve at first, six at last", x.high(0), 12);
        Due.labels(x, 0, 0, 0, 0, 0, 0, 200, 0, 0, 0, 0, 0);
        s.is("eleven then", x.high(0), 12);
        Due.labels(x, 0, 0, 0, 0, 0, 200, 0, 0, 0, 0, 0, 0);
        s.is("six and six", x.high(0), 12);
        Due.labels(x, 0, 0, 0, 0, 200, 0, 0, 0, 0, 0, 0, 0);
        s.is("six and seven", x.high(0), 13);
        Due.labels(x, 200, 0, 0, 0, 0, 0, 0, 0, 0, 0, 0, 0);
        s.is("the most that can be", x.high(0), 17);
        s.is("dropped ahead of it", x.high(1), 12);
    }

    static void termShares(Sentences s) {
        s.term("SHARES of a LINK in a COURSE: over all LABELS up to the end (or to where it is DROPPED) what part of the "
            + "PACKET goes along it, added up: a fraction in lowest terms (0 by 1).");
        LabelStacks x = Due.told(Nets.DIAMOND);
        Due.labels(x, 3, 0, 3, 0);
        shareIs(s, "a half and a half, in lowest terms", x, 0, 0, 1, 1);
        shareIs(s, "twice", x, 0, 4, 2, 1);
        Due.labels(x, 3, 0, 3, 0, 3);
        shareIs(s, "three halves", x, 0, 0, 3, 2);
        Due.labels(x, 3, 0, 9, 3);
        shareIs(s, "to where it is dropped", x, 0, 0, 1, 2);
        shareIs(s, "to where it is dropped", x, 0, 4, 1, 1);
        Due.labels(x, 9, 3);
        shareIs(s, "dropped at once, 0 by 1", x, 0, 0, 0, 1);
        // Six alike, five of them to 1: 1 by 6 each; then 5 by 6 along one link.
        LabelStacks y = Due.told("nodes 3;link 0 1 1;link 0 1 1;link 0 1 1;link 0 1 1;link 0 1 1;link 0 2 2;link 1 2 1;");
        Due.labels(y, 2);
        shareIs(s, "one of six", y, 0, 0, 1, 6);
        shareIs(s, "five of six", y, 0, 6, 5, 6);
    }

    static void termDemands(Sentences s) {
        s.term("DEMANDS 0 .. 7: a NODE, a VOLUME 1 .. 99, a STACK; or none (at first).");
        LabelStacks x = Due.told(Nets.RING);
        s.is("none at first", x.look(7), 0);
        for (int d = 0; d < 8; d++) {
            s.is("none yet", x.demandOf(d, 0), NONE);
            s.is("demand " + d, x.demand(d, d % 2, d == 0 ? 1 : 99), true);
            s.is("its node", x.demandOf(d, 0), d % 2);
            s.is("its volume", x.demandOf(d, 1), d == 0 ? 1 : 99);
            s.is("its labels", x.demandOf(d, 2), d);
            x.label(1);
        }
        s.is("all eight", x.look(7), 255);
        s.is("there is no ninth", x.demand(8, 0, 1), false);
        s.is("volume 0", x.demand(0, 0, 0), false);
        s.is("volume 100", x.demand(0, 0, 100), false);
    }

    static void termLoad(Sentences s) {
        s.term("LOAD of a LINK: VOLUMES times SHARES of all DEMANDS that are not DROPPED, added up.");
        LabelStacks x = Due.told(Nets.DIAMOND);
        Due.labels(x, 3);
        x.demand(0, 0, 3);
        loadIs(s, "three halves", x, 0, 3, 2);
        Due.labels(x, 3, 0, 3);
        x.demand(7, 0, 5);
        loadIs(s, "and five", x, 0, 13, 2);
        loadIs(s, "five", x, 4, 5, 1);
        Due.labels(x, 3, 0, 9);
        x.demand(3, 0, 99);
        loadIs(s, "the dropped one lays nothing", x, 0, 13, 2);
        loadIs(s, "not even as far as it comes", x, 4, 5, 1);
        LabelStacks y = Due.told(LAPS);
        Due.labels(y, 200, 200, 200, 200, 200, 200, 200, 200, 200, 200, 200, 200);
        for (int d = 0; d < 8; d++) {
            y.demand(d, 0, 99);
        }
        loadIs(s, "the most that can be", y, 1, 8 * 99 * 36, 1);
    }

    // ---- promise 11 ----

    static void labelMore(Sentences s) {
        s.of(11, "A LABEL comes behind THE STACK: how many it has.");
        LabelStacks x = new LabelStacks();
        int[] labels = {0, 9, 100, 129, 200, 205};
        for (int i = 0; i < labels.length; i++) {
            s.is("label(" + labels[i] + "), though none such is", x.label(labels[i]), i + 1);
        }
        s.row("behind", x, 1, labels);
        s.is("no act", x.look(9), 0);
    }

    static void labelThatIsNone(Sentences s) {
        s.of(11, "NONE if it is no LABEL,");
        LabelStacks x = Nets.busy();
        for (int label : new int[] {-1, 10, 99, 130, 199, 206, 300}) {
            s.none("label(" + label + ")", x, y -> y.label(label));
        }
        for (int wild : Nets.WILD) {
            s.is("label(" + wild + ")", x.label(wild), NONE);
        }
        s.is("two labels", x.look(5), 2);
    }

    static void labelThirteenth(Sentences s) {
        s.of(11, "or there are 12.");
        LabelStacks x = new LabelStacks();
        for (int i = 0; i < 11; i++) {
            x.label(0);
        }
        s.is("the twelfth", x.label(129), 12);
        s.none("a 13th", x, y -> y.label(1));
        s.is("the last one stays", x.at(11, 1), 129);
        x.pop(1);
        s.is("one more when one is gone", x.label(1), 12);
        s.is("it", x.at(11, 1), 1);
    }

    // ---- promise 12 ----

    static void popFirst(Sentences s) {
        s.of(12, "The first n LABELS of THE STACK go: how many are left.");
        LabelStacks x = new LabelStacks();
        s.is("none of none", x.pop(0), 0);
        Due.labels(x, 0, 1, 2, 3, 4, 5, 6, 7, 8, 9, 100, 101);
        s.is("none", x.pop(0), 12);
        s.row("all of them", x, 1, 0, 1, 2, 3, 4, 5, 6, 7, 8, 9, 100, 101);
        s.is("one", x.pop(1), 11);
        s.is("the first went", x.at(0, 1), 1);
        s.is("nine", x.pop(9), 2);
        s.row("the last are left", x, 1, 100, 101);
        s.is("just as many as there are", x.pop(2), 0);
        s.is("no act", x.look(9), 0);
    }

    static void popTooMany(Sentences s) {
        s.of(12, "NONE if there are not so many, or n is below 0.");
        LabelStacks x = Nets.busy();
        s.none("one too many", x, y -> y.pop(3));
        s.none("-1", x, y -> y.pop(-1));
        s.none("13", x, y -> y.pop(13));
        for (int wild : Nets.WILD) {
            s.is("pop(" + wild + ")", x.pop(wild), NONE);
        }
        s.row("both are there", x, 1, 1, 3);
        x.pop(2);
        s.none("one of none", x, y -> y.pop(1));
    }

    // ---- promise 20 ----

    static void endsSomewhere(Sentences s) {
        s.of(20, "Where a PACKET that begins at a NODE with THE STACK ends.");
        LabelStacks x = Due.told(LAPS);
        s.is("without labels", x.ends(1), 1);
        Due.labels(x, 200, 200, 200, 200, 200, 200, 200, 200, 200, 200, 200, 200);
        s.is("84 labels", x.ends(0), 0);
        x.pop(1);
        x.label(100);
        s.is("78 labels", x.ends(0), 1);
    }

    static void endsOfNoNode(Sentences s) {
        s.of(20, "NONE if there is no such NODE;");
        LabelStacks x = Nets.busy();
        s.none("-1", x, y -> y.ends(-1));
        s.none("n", x, y -> y.ends(4));
        for (int wild : Nets.WILD) {
            s.is("ends(" + wild + ")", x.ends(wild), NONE);
        }
        x.pop(2);
        s.none("without labels, too", x, y -> y.ends(4));
    }

    static void endsDropped(Sentences s) {
        s.of(20, "NONE - 1 - k if it is DROPPED, as it had come to the k-th LABEL that it ever had first "
            + "(0 on, those of BINDINGS for themselves, too).");
        LabelStacks x = Due.told(LAPS + "bind 1 at 0:l0 l1 l0 l1 l0 l0;bind 2 at 0:l1;bind 3 at 1:n0;");
        Due.labels(x, 9);
        s.is("at the first", x.ends(0), -2);
        Due.labels(x, 203);
        s.is("at a binding that is first", x.ends(0), -2);
        Due.labels(x, 202);
        s.is("at its first label", x.ends(0), -3);
        Due.labels(x, 100, 203, 202);
        s.is("the labels of two bindings count", x.ends(0), -2 - 4);
        Due.labels(x, 0, 0, 0, 0, 0, 0, 0, 0, 0, 0, 0, 9);
        s.is("at the twelfth", x.ends(0), -2 - 11);
        Due.labels(x, 200, 200, 200, 200, 200, 200, 200, 200, 200, 200, 200, 201);
        s.is("at the last of 84", x.ends(0), -2 - 83);
        Due.labels(x, 200, 101);
        s.is("behind a binding", x.ends(0), -2 - 7);
        Due.labels(x, 9, 1, 0, 1);
        s.is("with labels left", x.ends(0), -2);
        Due.labels(x, 0);
        s.is("which are no later packet's", x.ends(0), 0);
        s.is("nor do they make it higher", x.high(0), 1);
    }

    // ---- promises 21 to 23 ----

    static void exactOrNot(Sentences s) {
        s.of(21, "Whether its COURSE is EXACT (1, 0).");
        LabelStacks x = Due.told(Nets.DIAMOND);
        s.is("without labels", x.exact(0), 1);
        Due.labels(x, 3);
        s.is("two alike", x.exact(0), 0);
        s.is("sole", x.exact(2), 1);
        Due.labels(x, 104);
        s.is("dropped", x.exact(0), 0);
        s.is("not dropped", x.exact(3), 1);
        LabelStacks y = Due.told(LAPS);
        Due.labels(y, 200, 200, 200, 200, 200, 200, 200, 200, 200, 200, 200, 200);
        s.is("with more links than a way has", y.exact(0), 1);
    }

    static void exactOfNoNode(Sentences s) {
        s.of(21, "NONE if there is no such NODE.");
        LabelStacks x = Nets.busy();
        s.none("-1", x, y -> y.exact(-1));
        s.none("n", x, y -> y.exact(4));
        for (int wild : Nets.WILD) {
            s.is("exact(" + wild + ")", x.exact(wild), NONE);
        }
    }

    static void highZero(Sentences s) {
        s.of(22, "Its HIGH (0 without LABELS).");
        LabelStacks x = Due.told(LAPS);
        s.is("without labels", x.high(0), 0);
        x.label(1);
        s.is("one", x.high(0), 1);
        Due.labels(x, 200, 1);
        s.is("six and one", x.high(0), 7);
        s.is("dropped at the first", x.high(1), 2);
    }

    static void highOfNoNode(Sentences s) {
        s.of(22, "NONE if there is no such NODE.");
        LabelStacks x = Nets.busy();
        s.none("-1", x, y -> y.high(-1));
        s.none("n", x, y -> y.high(4));
        for (int wild : Nets.WILD) {
            s.is("high(" + wild + ")", x.high(wild), NONE);
        }
    }

    static void courseIsTheWay(Sentences s) {
        s.of(23, "THE WAY is its COURSE: how many LINKS.");
        LabelStacks x = Due.told(LAPS);
        Due.way(x, 1, 0);
        Due.labels(x, 100);
        s.is("one link", x.course(0), 1);
        s.row("it", x, 0, 0);
        Due.labels(x, 200, 200, 100, 101, 100, 101);
        s.is("sixteen", x.course(0), 16);
        s.row("all of them", x, 0, 0, 1, 0, 1, 0, 1, 0, 1, 0, 1, 0, 1, 0, 1, 0, 1);
        s.is("no act", x.look(9), 1);
    }

    static void courseThatCantBe(Sentences s) {
        s.of(23, "NONE if it is not EXACT, has none, or more than 16 (THE WAY stays then).");
        LabelStacks x = Nets.busy();
        Due.labels(x, 3);
        s.none("not sole", x, y -> y.course(0));
        s.none("none, as it is there", x, y -> y.course(3));
        Due.labels(x, 2, 9);
        s.none("dropped behind a link", x, y -> y.course(0));
        x.pop(2);
        s.none("none, without labels", x, y -> y.course(0));
        s.none("no such node", x, y -> y.course(4));
        s.none("no such node", x, y -> y.course(-1));
        for (int wild : Nets.WILD) {
            s.is("course(" + wild + ")", x.course(wild), NONE);
        }
        s.row("the way stays", x, 0, 2, 3, 4);
        LabelStacks z = Due.told(LAPS);
        Due.way(z, 1);
        Due.labels(z, 200, 200, 100, 101, 100, 101, 100);
        s.none("seventeen", z, y -> y.course(0));
        s.row("the way stays", z, 0, 1);
        Due.labels(z, 200, 200, 200, 200, 200, 200, 200, 200, 200, 200, 200, 200);
        s.none("72", z, y -> y.course(0));
    }

    // ---- promise 24 ----

    static void shareAboveAndBelow(Sentences s) {
        s.of(24, "SHARES of a LINK in its COURSE what 0 above, 1 below.");
        LabelStacks x = new LabelStacks();
        for (int i = 0; i < 30; i++) {
            x.link(0, 1, 1);
        }
        Due.labels(x, 1);
        shareIs(s, "the first of thirty", x, 0, 0, 1, 30);
        shareIs(s, "the last of thirty", x, 0, 29, 1, 30);
        shareIs(s, "none of it", x, 1, 29, 0, 1);
        LabelStacks y = Due.told(LAPS);
        Due.labels(y, 200, 200, 200, 200, 200, 200, 200, 200, 200, 200, 200, 200);
        shareIs(s, "the most that can be", y, 0, 1, 36, 1);
    }

    static void shareOfNone(Sentences s) {
        s.of(24, "NONE if there are none such, or another what.");
        LabelStacks x = Nets.busy();
        s.none("node -1", x, y -> y.share(-1, 0, 0));
        s.none("node n", x, y -> y.share(4, 0, 0));
        s.none("link -1", x, y -> y.share(0, -1, 1));
        s.none("link m", x, y -> y.share(0, 6, 1));
        s.none("what -1", x, y -> y.share(0, 0, -1));
        s.none("what 2", x, y -> y.share(0, 0, 2));
        for (int wild : Nets.WILD) {
            s.is("node " + wild, x.share(wild, 0, 0), NONE);
            s.is("link " + wild, x.share(0, wild, 0), NONE);
            s.is("what " + wild, x.share(0, 0, wild), NONE);
        }
        LabelStacks z = new LabelStacks();
        s.none("no links", z, y -> y.share(0, 0, 0));
    }

    // ---- promise 25 ----

    static void demandHas(Sentences s) {
        s.of(25, "A DEMAND has a NODE, a VOLUME and THE STACK: true;");
        LabelStacks x = Due.told(Nets.DIAMOND);
        s.is("without labels", x.demand(0, 0, 1), true);
        s.is("it ends where it begins", x.demandOf(0, 3), 0);
        Due.labels(x, 0, 0, 0, 0, 0, 0, 0, 0, 0, 0, 0, 3);
        s.is("with twelve", x.demand(7, 3, 99), true);
        s.is("its node", x.demandOf(7, 0), 3);
        s.is("its volume", x.demandOf(7, 1), 99);
        s.is("its labels", x.demandOf(7, 2), 12);
        s.is("the last of them", x.demandOf(7, 3), 3);
        x.pop(12);
        s.is("its labels are its own", x.demandOf(7, 2), 12);
        s.is("in another's place", x.demand(7, 2, 1), true);
        s.is("its labels are gone", x.demandOf(7, 2), 0);
        Due.labels(x, 1);
        x.demand(0, 0, 1);
        s.is("in the place of the first", x.demand(0, 0, 2), true);
        s.is("its labels alone", x.demandOf(0, 2), 1);
        Due.labels(x, 9, 205, 129);
        s.is("labels of what is not", x.demand(6, 1, 2), true);
        s.is("dropped", x.demandOf(6, 3), -2);
    }

    static void demandThatCantBe(Sentences s) {
        s.of(25, "false if one can't be.");
        LabelStacks x = Nets.busy();
        s.not("demand -1", x, y -> y.demand(-1, 0, 1));
        s.not("demand 8", x, y -> y.demand(8, 0, 1));
        s.not("node -1", x, y -> y.demand(5, -1, 1));
        s.not("node n", x, y -> y.demand(5, 4, 1));
        s.not("volume 0", x, y -> y.demand(5, 1, 0));
        s.not("volume -1", x, y -> y.demand(5, 1, -1));
        s.not("volume 100", x, y -> y.demand(5, 1, 100));
        for (int wild : Nets.WILD) {
            s.is("demand " + wild, x.demand(wild, 0, 1), false);
            s.is("node " + wild, x.demand(5, wild, 1), false);
            s.is("volume " + wild, x.demand(5, 0, wild), false);
        }
        s.is("the one that is there stays", x.demandOf(5, 1), 8);
    }

    // ---- promises 26 and 27 ----

    static void loadAboveAndBelow(Sentences s) {
        s.of(26, "LOAD of a LINK what 0 above, 1 below, in lowest terms.");
        LabelStacks x = Due.told(Nets.DIAMOND);
        loadIs(s, "without demands", x, 0, 0, 1);
        x.demand(1, 0, 9);
        loadIs(s, "a demand without labels", x, 0, 0, 1);
        Due.labels(x, 3);
        x.demand(0, 0, 7);
        loadIs(s, "seven halves", x, 3, 7, 2);
        x.demand(2, 0, 9);
        loadIs(s, "sixteen halves are eight", x, 3, 8, 1);
        loadIs(s, "none", x, 4, 0, 1);
        x.state(0, false);
        loadIs(s, "as all is now", x, 3, 16, 1);
        x.undo();
        loadIs(s, "as all is again", x, 3, 8, 1);
        // A third of 1 and a half of 1 are 5 by 6.
        LabelStacks y = Due.told("nodes 3;link 0 1 1;link 0 1 1;link 0 2 2;link 1 2 1;link 0 1 9;");
        Due.labels(y, 2);
        y.demand(0, 0, 1);
        Due.labels(y, 1);
        y.demand(1, 0, 1);
        loadIs(s, "unlike terms", y, 0, 5, 6);
    }

    static void loadOfNone(Sentences s) {
        s.of(26, "NONE if there is none such, or another what.");
        LabelStacks x = Nets.busy();
        s.none("link -1", x, y -> y.load(-1, 0));
        s.none("link m", x, y -> y.load(6, 0));
        s.none("what -1", x, y -> y.load(0, -1));
        s.none("what 2", x, y -> y.load(0, 2));
        for (int wild : Nets.WILD) {
            s.is("link " + wild, x.load(wild, 0), NONE);
            s.is("what " + wild, x.load(0, wild), NONE);
        }
        LabelStacks z = new LabelStacks();
        s.none("no links", z, y -> y.load(0, 1));
    }

    static void heaviestLink(Sentences s) {
        s.of(27, "The LINK with the greatest LOAD above 0, of several the first.");
        LabelStacks x = Due.told(Nets.DIAMOND);
        Due.labels(x, 3);
        x.demand(0, 0, 1);
        s.is("of four alike the first", x.heaviest(), 0);
        Due.labels(x, 2);
        x.demand(1, 0, 1);
        s.is("one and a half", x.heaviest(), 2);
        Due.labels(x, 0);
        x.demand(2, 3, 1);
        s.is("one is not above one and a half", x.heaviest(), 2);
        x.demand(2, 3, 2);
        s.is("two is, and the last link", x.heaviest(), 4);
        LabelStacks y = Due.told("nodes 3;link 0 1 1;link 0 1 1;link 0 1 1;link 1 2 1;link 1 2 1;");
        Due.labels(y, 1);
        y.demand(0, 0, 3);
        Due.labels(y, 2);
        y.demand(1, 1, 2);
        s.is("3 by 3 and 2 by 2 are alike", y.heaviest(), 0);
        y.demand(1, 1, 3);
        s.is("3 by 2 is above 3 by 3", y.heaviest(), 3);
        Due.labels(y, 1);
        y.demand(0, 0, 5);
        s.is("5 by 3 is above 3 by 2", y.heaviest(), 0);
        LabelStacks z = new LabelStacks();
        for (int i = 0; i < 30; i++) {
            z.link(i / 29, 1 - i / 29, 1);
        }
        Due.labels(z, 0);
        z.demand(0, 1, 1);
        s.is("the last of thirty, the others bearing nothing", z.heaviest(), 29);
    }

    static void heaviestNone(Sentences s) {
        s.of(27, "NONE if there is none.");
        LabelStacks x = Due.told(Nets.DIAMOND);
        s.none("no demands", x, y -> y.heaviest());
        x.demand(0, 0, 99);
        s.none("a demand that lays nothing", x, y -> y.heaviest());
        Due.labels(x, 3, 9);
        x.demand(0, 0, 99);
        s.none("a demand that is dropped", x, y -> y.heaviest());
        LabelStacks z = new LabelStacks();
        s.none("no links", z, y -> y.heaviest());
    }
}
