/** Kept ways, THE TAPE and what it tells: promises 32 to 37. */
final class TextBoundaries {
    private static final int NONE = LabelStacks.NONE;
    private static final String SIX = "n1 l1 n1 l1 n1 l1";

    private TextBoundaries() {
    }

    /** A text with a fault: nothing is done but that the tape is empty and the fault is told. */
    private static void fault(Sentences s, String text, int kind, int place) {
        LabelStacks x = Nets.busy();
        x.end(0);
        String before = Seen.world(x) + Seen.hand(x);
        int acts = x.look(9);
        Due.feedAll(x, text);
        s.is("text() of [" + text + "]", x.text(), NONE);
        s.is("the fault of [" + text + "]", x.fault(0), kind);
        s.is("the place of [" + text + "]", x.fault(1), place);
        s.same("nothing is done by [" + text + "]", Seen.world(x) + Seen.hand(x), before);
        s.is("no act", x.look(9), acts);
        s.is("the tape is empty", x.look(10), 0);
    }

    /** A text without a fault, and what there is then. */
    private static void tells(Sentences s, String text, String world) {
        LabelStacks x = new LabelStacks();
        Due.feedAll(x, text);
        s.is("text() of [" + text + "]", x.text(), x.look(1));
        s.is("no fault of [" + text + "]", x.fault(0), 0);
        s.is("no place of [" + text + "]", x.fault(1), NONE);
        s.same("what [" + text + "] tells", Seen.world(x), world);
    }

    private static String thirtyLinks() {
        return "nodes 2;" + "link0 1 1;".repeat(30);
    }

    // ---- the terms ----

    static void termKept(Sentences s) {
        s.term("KEPT WAYS 0 .. 11: like ones (the same LINKS) are kept once; numbered as they came.");
        LabelStacks x = Due.told(Nets.TWIN_RING);
        Due.way(x, 0);
        s.is("the first", x.keep(), 0);
        Due.way(x, 2);
        s.is("other links between the same nodes", x.keep(), 1);
        Due.way(x, 0, 1);
        s.is("one that goes on", x.keep(), 2);
        Due.way(x, 0, 3);
        s.is("one that ends otherwise", x.keep(), 3);
        Due.way(x, 2, 1);
        s.is("one that begins otherwise", x.keep(), 4);
        Due.way(x, 0);
        s.is("a like one", x.keep(), 0);
        Due.way(x, 0, 3);
        s.is("a like one", x.keep(), 3);
        s.is("each once", x.look(8), 5);
        for (int i = 5; i < 12; i++) {
            Nets.toAndFro(x, i);
            s.is("as they came", x.keep(), i);
        }
        Nets.toAndFro(x, 16);
        s.is("11 is the last", x.keep(), NONE);
    }

    static void termText(Sentences s) {
        s.term("TEXT: THE TAPE (500 bytes at most): \"nodes\" N \";\" { \"link\" N N N [ \"down\" ] \";\" "
            + "| \"bind\" N \"at\" N \":\" label { label } \";\" }; label = \"n\" N | \"l\" N: NODES, LINKS (from, to, COST; "
            + "numbered as told), BINDINGS (LABELS of any NODE 0 .. 9, any LINK 0 .. 29).");
        tells(s, "nodes 2;", "nodes 2, up 0\nway []\n");
        tells(s, "nodes 10;", "nodes 10, up 0\nway []\n");
        tells(s, "nodes 3;link 2 0 99 down;link 0 2 1;", "nodes 3, up 2\nlink 0 2 0 99 0\nlink 1 0 2 1 1\nway []\n");
        tells(s, "nodes 2;bind 5 at 1:n0 n9 l0 l29;bind 0 at 0:l7;",
            "nodes 2, up 0\nbinding 0 at 0: 107\nbinding 5 at 1: 0 9 100 129\nway []\n");
        tells(s, "nodes 2;bind 1 at 0:" + SIX + ";link 1 0 5;",
            "nodes 2, up 1\nlink 0 1 0 5 1\nbinding 1 at 0: 1 101 1 101 1 101\nway []\n");
        StringBuilder all = new StringBuilder("nodes 2, up 1073741823\n");
        for (int l = 0; l < 30; l++) {
            all.append("link ").append(l).append(" 0 1 1 1\n");
        }
        tells(s, thirtyLinks(), all + "way []\n");
    }

    static void termTextFull(Sentences s) {
        s.term("TEXT: THE TAPE (500 bytes at most)");
        tells(s, "nodes 7;" + " ".repeat(492), "nodes 7, up 0\nway []\n");
        tells(s, " ".repeat(492) + "nodes 7;", "nodes 7, up 0\nway []\n");
        tells(s, "nodes " + "0".repeat(492) + "7;", "nodes 7, up 0\nway []\n");
        fault(s, "nodes 7;" + "x".repeat(492), 1, 8);
        fault(s, "nodes 7;" + " ".repeat(491) + "x", 1, 499);
        fault(s, " ".repeat(493) + "nodes 7", 1, 500);
        fault(s, " ".repeat(500), 1, 500);
        LabelStacks x = new LabelStacks();
        for (int i = 0; i < 25; i++) {
            x.feed(0, 0, 0, 0, 0);
        }
        s.is("no more than 500", x.feed(0, 0, 0, 0, 0), NONE);
    }

    static void termNumbers(Sentences s) {
        s.term("N: digits, as many as stand there;");
        tells(s, "nodes 0000003;link 00 002 0099;", "nodes 3, up 1\nlink 0 0 2 99 1\nway []\n");
        tells(s, "nodes 2;bind 000005 at 0001:n0009l00029;", "nodes 2, up 0\nbinding 5 at 1: 9 129\nway []\n");
        fault(s, "nodes 33;", 2, 6);
        fault(s, "nodes 4294967298;", 2, 6);
        fault(s, "nodes 18446744073709551618;", 2, 6);
        fault(s, "nodes 3;link 0 1 4294967297;", 2, 17);
        fault(s, "nodes " + "1".repeat(300) + ";", 2, 6);
        fault(s, "nodes 1" + "0".repeat(300) + ";", 2, 6);
        fault(s, "nodes -3;", 1, 6);
        fault(s, "nodes +3;", 1, 6);
        fault(s, "nodes /;", 1, 6);
        fault(s, "nodes :;", 1, 6);
        fault(s, "nodes 3.0;", 1, 7);
    }

    static void termWords(Sentences s) {
        s.term("words small letters, as many as stand there;");
        tells(s, "nodes3;link0 1 5down;bind0at2:n0;",
            "nodes 3, up 0\nlink 0 0 1 5 0\nbinding 0 at 2: 0\nway []\n");
        fault(s, "nodesa 3;", 1, 0);
        fault(s, "nodesz3;", 1, 0);
        fault(s, "node 3;", 1, 0);
        fault(s, "NODES 3;", 1, 0);
        fault(s, "nodes 3;linkbind 0 1 1;", 1, 8);
        fault(s, "nodes 3;binda 0 at 0:n0;", 1, 8);
        fault(s, "nodes 3;link 0 1 1 downz;", 1, 19);
        fault(s, "nodes 3;link 0 1 1 dow;", 1, 19);
        fault(s, "nodes 3;bind 0 ata 0:n0;", 1, 15);
        fault(s, "nodes 3;bind 0 a 0:n0;", 1, 15);
        fault(s, "nodes 3;bind 0 at 0:nn1;", 1, 20);
        fault(s, "nodes 3;bind 0 at 0:ln1;", 1, 20);
        fault(s, "nodes 3;bind 0 at 0:n1 la1;", 1, 23);
        fault(s, "nodes`3;", 1, 5);
        fault(s, "nodes{3;", 1, 5);
        fault(s, "nodesA3;", 1, 5);
    }

    static void termLabelNumber(Sentences s) {
        s.term("the N of a label right behind its letter;");
        tells(s, "nodes 2;bind 0 at 0:n1l2n3;", "nodes 2, up 0\nbinding 0 at 0: 1 102 3\nway []\n");
        fault(s, "nodes 2;bind 0 at 0:n 1;", 1, 21);
        fault(s, "nodes 2;bind 0 at 0:l 1;", 1, 21);
        fault(s, "nodes 2;bind 0 at 0:n1 l  2;", 1, 24);
        fault(s, "nodes 2;bind 0 at 0:n;", 1, 21);
        fault(s, "nodes 2;bind 0 at 0:n", 1, 21);
    }

    static void termBlanks(Sentences s) {
        s.term("blanks (32) may stand ahead of all others and at the end.");
        tells(s, "  nodes  3  ;  link  0  1  5  down  ;  bind  0  at  2  :  n0  l1  ;  ",
            "nodes 3, up 0\nlink 0 0 1 5 0\nbinding 0 at 2: 0 101\nway []\n");
        tells(s, "nodes3;link0 1 5down;bind0at2:n0l1;",
            "nodes 3, up 0\nlink 0 0 1 5 0\nbinding 0 at 2: 0 101\nway []\n");
        fault(s, "nodes 1 0;", 2, 6);
        fault(s, "nodes 2 0;", 1, 8);
        fault(s, "no des 2;", 1, 0);
        for (char sign : new char[] {0, '\t', '\n', '\r', 31, 33, 127, 160, 255}) {
            fault(s, "nodes" + sign + "3;", 1, 5);
            fault(s, "nodes 3;" + sign, 1, 8);
        }
    }

    static void termFaultPlace(Sentences s) {
        s.term("FAULTS, the first by its place (from 0; the end: THE TAPE's length), at one place the least:");
        fault(s, "x", 1, 0);
        fault(s, "", 1, 0);
        fault(s, "nodes", 1, 5);
        fault(s, "nodes ", 1, 6);
        fault(s, "nodes 3", 1, 7);
        fault(s, "nodes 3;link", 1, 12);
        fault(s, "nodes 3;link 0 1 1", 1, 18);
        fault(s, "nodes 3;link 0 1 1 down ", 1, 24);
        fault(s, "nodes 3;bind 0 at 0:", 1, 20);
        fault(s, "nodes 3;bind 0 at 0:n1", 1, 22);
        // The first of two faults counts, whichever they are.
        fault(s, "nodes 11;x", 2, 6);
        fault(s, "link 0 1 1;x", 1, 0);
        fault(s, "link 0 1 100;", 1, 0);
        fault(s, "nodes 3 link 0 1 100;", 1, 8);
        fault(s, "nodes 3;link link 0 1 100;", 1, 13);
        fault(s, "nodes 3;link 0 1 1 link 0 1 100;", 1, 19);
        fault(s, "nodes 3;bind link 0 1 100;", 1, 13);
        fault(s, "nodes 3;bind 0 link 0 1 100;", 1, 15);
        fault(s, "nodes 3;bind 0 at link 0 1 100;", 1, 18);
        fault(s, "nodes 3;bind 0 at 0 link 0 1 100;", 1, 20);
        fault(s, "nodes 3;bind 0 at 0:link 0 1 100;", 1, 20);
        fault(s, "nodes 3;bind 0 at 0:n1 link 0 1 100;", 1, 23);
        fault(s, "nodes 3;x nodes 11;", 1, 8);
        fault(s, "nodes 3;link 0 0 0;", 2, 15);
        fault(s, "nodes 3;link 3 3 1;", 2, 13);
        fault(s, thirtyLinks() + "link 9 9 9", 3, 308);
        fault(s, "nodes 3;bind 0 at 0:n1;bind 0 at 9", 3, 28);
        fault(s, "nodes 3;bind 0 at 0:" + SIX + " n99;", 4, 38);
        fault(s, "nodes 3;bind 0 at 0:" + SIX + " n;", 4, 38);
        // At one place: no label can stand there, and it would be the seventh.
        fault(s, "nodes 3;bind 0 at 0:" + SIX + " x1;", 1, 38);
        fault(s, "nodes 3;bind 0 at 0:" + SIX + " nl1;", 1, 38);
        fault(s, thirtyLinks() + "links 0 1 1;", 1, 308);
        fault(s, "nodes 3;bind 0 at 0:n1;bind 6 at 0:n1;", 2, 28);
    }

    static void termCantStand(Sentences s) {
        s.term("1 what can't stand there,");
        fault(s, "link 0 1 1;", 1, 0);
        fault(s, "bind 0 at 0:n0;", 1, 0);
        fault(s, "3;", 1, 0);
        fault(s, ";", 1, 0);
        fault(s, "nodes ;", 1, 6);
        fault(s, "nodes x;", 1, 6);
        fault(s, "nodes 3:", 1, 7);
        fault(s, "nodes 3 link 0 1 1;", 1, 8);
        fault(s, "nodes 3;;", 1, 8);
        fault(s, "nodes 3;3;", 1, 8);
        fault(s, "nodes 3;down;", 1, 8);
        fault(s, "nodes 3;nodes 3;", 1, 8);
        fault(s, "nodes 3;link ;", 1, 13);
        fault(s, "nodes 3;link 0 ;", 1, 15);
        fault(s, "nodes 3;link 0 1 ;", 1, 17);
        fault(s, "nodes 3;link 0 1 1 1;", 1, 19);
        fault(s, "nodes 3;link 0 1 1:", 1, 18);
        fault(s, "nodes 3;link 0 1 down;", 1, 17);
        fault(s, "nodes 3;link 0 1 1 up;", 1, 19);
        fault(s, "nodes 3;link 0 1 1 down down;", 1, 24);
        fault(s, "nodes 3;bind at 0:n0;", 1, 13);
        fault(s, "nodes 3;bind 0 0:n0;", 1, 15);
        fault(s, "nodes 3;bind 0 at :n0;", 1, 18);
        fault(s, "nodes 3;bind 0 at 0;", 1, 19);
        fault(s, "nodes 3;bind 0 at 0 n0;", 1, 20);
        fault(s, "nodes 3;bind 0 at 0:;", 1, 20);
        fault(s, "nodes 3;bind 0 at 0:1;", 1, 20);
        fault(s, "nodes 3;bind 0 at 0:b1;", 1, 20);
        fault(s, "nodes 3;bind 0 at 0:N1;", 1, 20);
        fault(s, "nodes 3;bind 0 at 0:n1:", 1, 22);
        fault(s, "nodes 3;bind 0 at 0:n1 1;", 1, 23);
        fault(s, "nodes 3;bind 0 at 0:n1,n2;", 1, 22);
    }

    static void termCantBe(Sentences s) {
        s.term("2 a number that can't be (a link's second NODE like its first, too),");
        fault(s, "nodes 0;", 2, 6);
        fault(s, "nodes 1;", 2, 6);
        fault(s, "nodes 11;", 2, 6);
        fault(s, "nodes 2;link 2 0 1;", 2, 13);
        fault(s, "nodes 2;link 0 2 1;", 2, 15);
        fault(s, "nodes 2;link 0 0 1;", 2, 15);
        fault(s, "nodes 2;link 1 1 1;", 2, 15);
        fault(s, "nodes 2;link 1  001 1;", 2, 16);
        fault(s, "nodes 2;link 0 1 0;", 2, 17);
        fault(s, "nodes 2;link 0 1 100;", 2, 17);
        fault(s, "nodes 2;bind 6 at 0:n0;", 2, 13);
        fault(s, "nodes 2;bind 0 at 2:n0;", 2, 18);
        fault(s, "nodes 10;bind 0 at 10:n0;", 2, 19);
        fault(s, "nodes 2;bind 0 at 0:n10;", 2, 21);
        fault(s, "nodes 2;bind 0 at 0:l30;", 2, 21);
        fault(s, "nodes 2;bind 0 at 0:n0 l1 n99;", 2, 27);
        tells(s, "nodes 10;link 9 8 99;link 0 9 1;bind 5 at 9:n9l29;",
            "nodes 10, up 3\nlink 0 9 8 99 1\nlink 1 0 9 1 1\nbinding 5 at 9: 9 129\nway []\n");
    }

    static void termTooMany(Sentences s) {
        s.term("3 a 31st link (at its word), a BINDING told already (at its number),");
        fault(s, thirtyLinks() + "link 0 1 1;", 3, 308);
        fault(s, thirtyLinks() + "  link 0 1 1;", 3, 310);
        fault(s, thirtyLinks() + "link", 3, 308);
        fault(s, thirtyLinks() + "bind 0 at 0:n0;link 0 1 1;", 3, 323);
        fault(s, "nodes 3;bind 0 at 0:n0;bind 0 at 0:n0;", 3, 28);
        fault(s, "nodes 3;bind 5 at 0:n0;bind 4 at 0:n0; bind  05 at 0:n0;", 3, 45);
        fault(s, "nodes 3;bind 5 at 0:n0;bind 5", 3, 28);
        // Those that were there ahead of the text are not told by it.
        LabelStacks x = new LabelStacks();
        Due.feedAll(x, thirtyLinks() + "bind 0 at 0:n0;");
        x.text();
        Due.feedAll(x, thirtyLinks() + "bind 0 at 1:n1;");
        s.is("as many again", x.text(), 30);
        s.is("the binding again", x.binding(0, 0), 1);
        s.is("with its own labels alone", x.binding(0, 1), 1);
        // Nor are those that a text with a fault told.
        Due.feedAll(x, thirtyLinks() + "bind 1 at 1:n1 n1;x");
        s.is("with a fault", x.text(), NONE);
        Due.feedAll(x, thirtyLinks() + "bind 1 at 0:n0;");
        s.is("without", x.text(), 30);
        s.is("its labels", x.binding(1, 1), 1);
    }

    static void termSeventh(Sentences s) {
        s.term("4 a seventh label (at it).");
        tells(s, "nodes 2;bind 0 at 0:" + SIX + " ;", "nodes 2, up 0\nbinding 0 at 0: 1 101 1 101 1 101\nway []\n");
        fault(s, "nodes 2;bind 0 at 0:" + SIX + " n1;", 4, 38);
        fault(s, "nodes 2;bind 0 at 0:" + SIX + "l1;", 4, 37);
        fault(s, "nodes 2;bind 0 at 0:" + SIX + "   n1 n1 n1;", 4, 40);
        fault(s, "nodes 2;bind 0 at 0:" + SIX + " l", 4, 38);
        fault(s, "nodes 2;bind 0 at 0:n0;bind 1 at 0:" + SIX + " n1;", 4, 53);
    }

    static void termFaultDoesNothing(Sentences s) {
        s.term("Nothing is done with a FAULT;");
        // A fault at the very end of a long text: all ahead of it could have been done.
        fault(s, "nodes 9;link 0 8 1;link 8 0 1 down;bind 3 at 8:n0 l1;x", 1, 53);
        fault(s, "nodes 9;link 0 8 1", 1, 18);
        LabelStacks x = Nets.busy();
        x.end(0);
        x.image(true);
        int acts = x.look(9);
        Due.feedAll(x, "nodes 9;x");
        x.text();
        s.is("acts can still be undone", x.undo(), acts - 1);
        s.is("the image is there", x.image(false), true);
        s.is("four nodes", x.look(0), 4);
    }

    static void termTextReplaces(Sentences s) {
        s.term("else there are these NODES, LINKS, BINDINGS, nothing else of them; DEMANDS, KEPT WAYS, THE WAY are gone; "
            + "THE STACK, DEPTH stay.");
        LabelStacks x = Nets.busy();
        x.end(0);
        Due.feedAll(x, "nodes 2;link 1 0 3;bind 0 at 1:n0;");
        s.is("one link", x.text(), 1);
        s.same("these alone", Seen.world(x), "nodes 2, up 1\nlink 0 1 0 3 1\nbinding 0 at 1: 0\nway []\n");
        s.same("the stack and depth", Seen.hand(x), "stack [1, 3], depth 4\n");
        s.is("demands are gone", x.demandOf(5, 0), NONE);
        s.is("kept ways are gone", x.take(0), NONE);
        s.is("the way is gone", x.look(12), NONE);
        s.is("far is of these", x.far(1, 0), 3);
        s.is("far is of these", x.far(0, 1), NONE);
        Due.way(x, 0);
        s.is("kept ways begin anew", x.keep(), 0);
    }

    // ---- promises 32 and 33 ----

    static void keepNumber(Sentences s) {
        s.of(32, "THE WAY is KEPT: its number (that of a like one, if there is one).");
        LabelStacks x = Due.told(Nets.RING);
        for (int i = 0; i < 12; i++) {
            Nets.toAndFro(x, i + 5);
            s.is("its number", x.keep(), i);
        }
        s.is("twelve", x.look(8), 12);
        for (int i = 0; i < 12; i++) {
            Nets.toAndFro(x, i + 5);
            s.refuses("a like one, though there are twelve", x, i, y -> y.keep());
        }
        x.off(x.look(4));
        s.is("what is kept stays when THE WAY goes", x.take(11), 16);
    }

    static void keepNone(Sentences s) {
        s.of(32, "NONE if it is empty, or there are 12 others.");
        LabelStacks x = Due.told(Nets.RING);
        s.none("empty", x, y -> y.keep());
        for (int i = 0; i < 12; i++) {
            Nets.toAndFro(x, i + 1);
            x.keep();
        }
        Nets.toAndFro(x, 13);
        s.none("twelve others", x, y -> y.keep());
        x.off(13);
        s.none("empty, and twelve others", x, y -> y.keep());
        x.undo();
        Nets.toAndFro(x, 13);
        s.is("eleven others", x.keep(), 11);
    }

    static void takeBack(Sentences s) {
        s.of(33, "THE WAY is the KEPT one: how many LINKS.");
        LabelStacks x = Due.told(Nets.RING);
        for (int i = 0; i < 12; i++) {
            Nets.toAndFro(x, i + 5);
            x.keep();
        }
        int acts = x.look(9);
        s.is("the first", x.take(0), 5);
        s.row("it", x, 0, 0, 1, 0, 1, 0);
        s.is("the last", x.take(11), 16);
        s.row("it", x, 0, 0, 1, 0, 1, 0, 1, 0, 1, 0, 1, 0, 1, 0, 1, 0, 1);
        s.is("it is kept still", x.look(8), 12);
        x.off(10);
        s.is("its own", x.take(11), 16);
        s.is("no act", x.look(9), acts);
    }

    static void takeNone(Sentences s) {
        s.of(33, "NONE if there is none such.");
        LabelStacks x = Nets.busy();
        s.none("-1", x, y -> y.take(-1));
        s.none("as many as there are", x, y -> y.take(1));
        s.none("11", x, y -> y.take(11));
        s.none("12", x, y -> y.take(12));
        for (int wild : Nets.WILD) {
            s.is("take(" + wild + ")", x.take(wild), NONE);
        }
        LabelStacks z = new LabelStacks();
        s.none("none at all", z, y -> y.take(0));
    }

    // ---- promises 34 and 35 ----

    static void feedTwenty(Sentences s) {
        s.of(34, "Twenty bytes come behind THE TAPE, four of each number, the highest first: how many it has.");
        LabelStacks x = new LabelStacks();
        s.is("twenty", x.feed(0x6E6F6465, 0x7320333B, 0x6C696E6B, 0x20302031, 0x2039393B), 20);
        s.is("forty", x.feed(0x62696E64, 0x20302061, 0x7420323A, 0x6E306C31, 0x3B202020), 40);
        s.is("the text", x.text(), 1);
        s.same("in this order", Seen.world(x), "nodes 3, up 1\nlink 0 0 1 99 1\nbinding 0 at 2: 0 101\nway []\n");
        s.is("twenty again", x.feed(0, 0, 0, 0, 0), 20);
        for (int place = 0; place < 12; place++) {
            // A byte above 127 among blanks, in each of the places that three of the numbers have.
            LabelStacks y = Due.told(Nets.RING);
            Due.feedAll(y, "nodes 2;");
            int[] w = {0x20202020, 0x20202020, 0x20202020};
            w[place / 4] ^= 0xDF << 24 - 8 * (place % 4);
            s.is("behind", y.feed(w[0], w[1], w[2], 0x20202020, 0x20202020), 28);
            s.is("a byte that can't stand there", y.text(), NONE);
            s.is("its place", y.fault(1), 8 + place);
        }
    }

    static void feedBeyond(Sentences s) {
        s.of(34, "NONE, and none come, if there would be more than 500.");
        LabelStacks x = new LabelStacks();
        for (int i = 1; i <= 25; i++) {
            s.is("feed", x.feed(1, 2, 3, 4, 5), 20 * i);
        }
        s.none("beyond 500", x, y -> y.feed(1, 2, 3, 4, 5));
        x.end(481);
        s.none("beyond 500 by one", x, y -> y.feed(1, 2, 3, 4, 5));
        x.end(499);
        s.none("beyond 500 by nineteen", x, y -> y.feed(1, 2, 3, 4, 5));
        x.end(480);
        s.is("just 500", x.feed(1, 2, 3, 4, 5), 500);
        LabelStacks z = new LabelStacks();
        Due.feedAll(z, "nodes 7;" + " ".repeat(473));
        z.feed(0x78787878, 0x78787878, 0x78787878, 0x78787878, 0x78787878);
        s.is("none came", z.text(), 0);
    }

    static void endFirst(Sentences s) {
        s.of(35, "THE TAPE has its first n bytes alone: true;");
        LabelStacks x = new LabelStacks();
        s.is("none of none", x.end(0), true);
        Due.feedAll(x, "nodes 10;");
        s.is("all of them", x.end(9), true);
        s.is("nine", x.look(10), 9);
        s.is("all but two", x.end(7), true);
        s.is("what was cut is gone, a digit", x.text(), NONE);
        s.is("1 can't be", x.fault(0), 2);
        Due.feedAll(x, "nodes 3;x");
        s.is("all but one", x.end(8), true);
        s.is("what was cut is gone", x.text(), 0);
        Due.feedAll(x, "nodesx");
        s.is("all but a letter", x.end(5), true);
        s.is("what was cut is gone, a letter", x.text(), NONE);
        s.is("the word is whole, its number is not there", x.fault(1), 5);
        Due.feedAll(x, "xxxx");
        s.is("none", x.end(0), true);
        s.is("none", x.look(10), 0);
        Due.feedAll(x, "nodes 4;");
        s.is("what comes then is first", x.text(), 0);
        s.is("four", x.look(0), 4);
        Due.feedAll(x, "nodes 7;" + " ".repeat(492));
        s.is("500", x.end(500), true);
        s.is("500", x.look(10), 500);
    }

    static void endTooMany(Sentences s) {
        s.of(35, "false if it has not so many, or n is below 0.");
        LabelStacks x = Nets.busy();
        s.not("one more", x, y -> y.end(10));
        s.not("-1", x, y -> y.end(-1));
        s.not("501", x, y -> y.end(501));
        for (int wild : Nets.WILD) {
            s.is("end(" + wild + ")", x.end(wild), false);
        }
        s.is("nine bytes", x.look(10), 9);
        x.end(0);
        s.not("one of none", x, y -> y.end(1));
    }

    // ---- promises 36 and 37 ----

    static void textLinks(Sentences s) {
        s.of(36, "THE TAPE (empty then) is a TEXT: how many LINKS.");
        LabelStacks x = new LabelStacks();
        Due.feedAll(x, "nodes 2;");
        s.is("none", x.text(), 0);
        s.is("empty then", x.look(10), 0);
        Due.feedAll(x, thirtyLinks());
        s.is("thirty", x.text(), 30);
        s.is("empty then", x.look(10), 0);
        Due.feedAll(x, "nodes 2;x");
        x.text();
        s.is("empty then, with a fault too", x.look(10), 0);
        Due.feedAll(x, "nodes 2;link 0 1 1;");
        s.is("nothing is left of the faulty one", x.text(), 1);
    }

    static void textFault(Sentences s) {
        s.of(36, "NONE if there is a FAULT.");
        LabelStacks x = Nets.busy();
        x.end(0);
        s.is("an empty tape", x.text(), NONE);
        s.is("its fault", x.fault(0), 1);
        s.is("its place", x.fault(1), 0);
        fault(s, "nodes 2;link 0 1 1;link 1 0 100;", 2, 28);
        fault(s, "nodes 2", 1, 7);
    }

    static void faultOfLatest(Sentences s) {
        s.of(37, "Of the latest text() what 0 FAULT (0 without), 1 its place (NONE).");
        LabelStacks x = new LabelStacks();
        s.is("no text yet", x.fault(0), 0);
        s.is("no text yet", x.fault(1), NONE);
        Due.feedAll(x, "nodes 3;bind 0 at 0:" + SIX + " n1;");
        x.text();
        s.is("the fault", x.fault(0), 4);
        s.is("the place", x.fault(1), 38);
        x.nodes(5);
        x.undo();
        x.image(true);
        x.image(false);
        Due.feedAll(x, "nodes");
        x.end(0);
        s.is("others leave it", x.fault(0), 4);
        s.is("others leave it", x.fault(1), 38);
        Due.feedAll(x, "nodes 3;");
        s.is("feed() leaves it", x.fault(1), 38);
        x.text();
        s.is("the latest has none", x.fault(0), 0);
        s.is("the latest has none", x.fault(1), NONE);
        x.text();
        s.is("the latest has one", x.fault(0), 1);
        s.is("at 0", x.fault(1), 0);
    }

    static void faultOfWhat(Sentences s) {
        s.of(37, "NONE for another what.");
        LabelStacks x = Nets.busy();
        s.none("-1", x, y -> y.fault(-1));
        s.none("2", x, y -> y.fault(2));
        for (int wild : Nets.WILD) {
            s.is("what " + wild, x.fault(wild), NONE);
        }
    }
}
