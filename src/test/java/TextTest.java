/** Texts, what they tell, and their faults (promises 34 to 37). */
public final class TextTest {
    private static final Due due = new Due("TextTest");

    public static void main(String[] args) {
        fine();
        cantStand();
        cantBe();
        tooMany();
        seventh();
        whatStays();
        tapeItself();
        due.close();
    }

    private static void fault(String text, int kind, int place) {
        LabelStacks x = new LabelStacks();
        Due.feedAll(x, text);
        due.is("text() of [" + text + "]", x.text(), LabelStacks.NONE);
        due.is("its fault, [" + text + "]", x.fault(0), kind);
        due.is("its place, [" + text + "]", x.fault(1), place);
        due.is("the tape behind it", x.look(10), 0);
        due.is("the acts behind it", x.look(9), 0);
        due.is("the nodes behind it", x.look(0), 2);
    }

    private static void good(String text, int links) {
        LabelStacks x = new LabelStacks();
        Due.feedAll(x, text);
        due.is("text() of [" + text + "]", x.text(), links);
        due.is("no fault, [" + text + "]", x.fault(0), 0);
        due.is("no place, [" + text + "]", x.fault(1), LabelStacks.NONE);
    }

    private static void fine() {
        good("nodes 2;", 0);
        good("nodes10;", 0);
        good("   nodes   10   ;   ", 0);
        good("nodes 002;", 0);
        good("nodes2;link0 1 99;", 1);
        good("nodes2;link0 1 99down;link 1 0 1 down ;", 2);
        good("nodes 3 ; link 0 1 1 ; bind 0 at 0 : n0 n9 l0 l29 n9 ;", 1);
        good("nodes 3;bind0at2:n1l29n0;bind 5at0:l0;", 0);
        good("nodes 2;bind 00000000000000000000000000000000000000003 at 1:n0000000000000000000009;", 0);
        LabelStacks x = Due.told("nodes 4;link 3 2 7;bind 4 at 3:l29 n9;link 0 1 1 down;");
        due.is("its nodes", x.look(0), 4);
        due.is("its links", x.look(1), 2);
        due.is("up ones", x.look(2), 1);
        due.is("from", x.linkOf(0, 0), 3);
        due.is("to", x.linkOf(0, 1), 2);
        due.is("cost", x.linkOf(0, 2), 7);
        due.is("down", x.linkOf(1, 3), 0);
        due.is("bindings", x.look(6), 16);
        due.is("binding's node", x.binding(4, 0), 3);
        due.is("binding's labels", x.binding(4, 1), 2);
        due.is("binding's first", x.binding(4, 10), 129);
        due.is("binding's second", x.binding(4, 11), 9);
        due.is("one act", x.look(9), 1);
    }

    private static void cantStand() {
        fault("", 1, 0);
        fault("   ", 1, 3);
        fault("node 3;", 1, 0);
        fault(" nodesx 3;", 1, 1);
        fault("nodesa 3;", 1, 0);
        fault("nodesz 3;", 1, 0);
        fault("nodes`3;", 1, 5);
        fault("nodes{3;", 1, 5);
        fault("Nodes 3;", 1, 0);
        fault("nodes /3;", 1, 6);
        fault("nodes :3;", 1, 6);
        fault("nodes", 1, 5);
        fault("nodes  ", 1, 7);
        fault("nodes ;", 1, 6);
        fault("nodes -3;", 1, 6);
        fault("nodes 3", 1, 7);
        fault("nodes 3  ", 1, 9);
        fault("nodes 3x;", 1, 7);
        fault("nodes 3 4;", 1, 8);
        fault("nodes 3;;", 1, 8);
        fault("nodes 3;nodes 3;", 1, 8);
        fault("nodes 3; links 0 1 1;", 1, 9);
        fault("nodes 3;lin", 1, 8);
        fault("nodes 3;link 0 1;", 1, 16);
        fault("nodes 3;link 0,1 1;", 1, 14);
        fault("nodes 3;link 0 1 1 dow;", 1, 19);
        fault("nodes 3;link 0 1 1 downx;", 1, 19);
        fault("nodes 3;link 0 1 1 down down;", 1, 24);
        fault("nodes 3;link 0 1 1 down", 1, 23);
        fault("nodes 3;link 0 1 1 2;", 1, 19);
        fault("nodes 3;bind 0 a 0:n0;", 1, 15);
        fault("nodes 3;bind 0 at 0 n0;", 1, 20);
        fault("nodes 3;bind 0 at 0:;", 1, 20);
        fault("nodes 3;bind 0 at 0: ", 1, 21);
        fault("nodes 3;bind 0 at 0:0;", 1, 20);
        fault("nodes 3;bind 0 at 0:n;", 1, 21);
        fault("nodes 3;bind 0 at 0:n", 1, 21);
        fault("nodes 3;bind 0 at 0:n 1;", 1, 21);
        fault("nodes 3;bind 0 at 0:nl1;", 1, 20);
        fault("nodes 3;bind 0 at 0:n1 b1;", 1, 23);
        fault("nodes 3;bind 0 at 0:n1,", 1, 22);
        fault("nodes 3;bind 0 at 0:n1", 1, 22);
        fault("nodes 3;\tlink 0 1 1;", 1, 8);
        fault("nodes 3;\n", 1, 8);
        fault("nodes 3;" + (char) 0, 1, 8);
        fault("nodes 3;" + (char) 236 + "ink", 1, 8);
    }

    private static void cantBe() {
        fault("nodes 1;", 2, 6);
        fault("nodes 0;", 2, 6);
        fault("nodes 11;", 2, 6);
        fault("nodes 4294967299;", 2, 6);
        fault("nodes 18446744073709551619x", 2, 6);
        fault("nodes 3;link 3 1 1;", 2, 13);
        fault("nodes 3;link 0 3 1;", 2, 15);
        fault("nodes 3;link 0 0 1;", 2, 15);
        fault("nodes 3;link 1  01 1;", 2, 16);
        fault("nodes 3;link 2 2;", 2, 15);
        fault("nodes 3;link 0 1 0;", 2, 17);
        fault("nodes 3;link 0 1 100;", 2, 17);
        fault("nodes 3;bind 6 at 0:n0;", 2, 13);
        fault("nodes 3;bind 0 at 3:n0;", 2, 18);
        fault("nodes 3;bind 0 at 0:n10;", 2, 21);
        fault("nodes 3;bind 0 at 0:l30;", 2, 21);
        fault("nodes 3;bind 0 at 0:n1 l 3;", 1, 24);
        fault("nodes 3;bind 0 at 0:n1 l99999999999999;", 2, 24);
    }

    private static void tooMany() {
        StringBuilder thirty = new StringBuilder("nodes 2;");
        for (int i = 0; i < 30; i++) {
            thirty.append("link0 1 1;");
        }
        good(thirty.toString(), 30);
        good(thirty + "bind 0 at 0:n0;", 30);
        int length = thirty.length();
        fault(thirty + "link 0 1 1;", 3, length);
        fault(thirty + "  link 9 9 9;", 3, length + 2);
        fault(thirty + "link", 3, length);
        fault(thirty + "linkx", 1, length);
        fault("nodes 3;bind 0 at 0:n1;bind 0 at 1:n1;", 3, 28);
        fault("nodes 3;bind 0 at 0:n1;bind 1 at 1:n1; bind  01 at 1:n1;", 3, 45);
        fault("nodes 3;bind 5 at 0:n1;bind 5;", 3, 28);
    }

    private static void seventh() {
        good("nodes 3;bind 0 at 0:n1 n1 n1 n1 n1 n1;", 0);
        fault("nodes 3;bind 0 at 0:n1 n1 n1 n1 n1 n1 n1;", 4, 38);
        fault("nodes 3;bind 0 at 0:n1l1n1l1n1l1l1;", 4, 32);
        fault("nodes 3;bind 0 at 0:n1 n1 n1 n1 n1 n1 l99;", 4, 38);
        fault("nodes 3;bind 0 at 0:n1 n1 n1 n1 n1 n1 x1;", 1, 38);
        fault("nodes 3;bind 0 at 0:n1 n1 n1 n1 n1 n1 nn;", 1, 38);
        fault("nodes 3;bind 0 at 0:n1 n1 n1 n1 n1 n1 ", 1, 38);
    }

    private static void whatStays() {
        LabelStacks x = Due.told("nodes 3;link 0 1 5;link 1 2 5;bind 1 at 0:n2;");
        Due.labels(x, 2);
        x.depth(7);
        Due.way(x, 0, 1);
        x.keep();
        x.demand(3, 0, 9);
        Due.feedAll(x, "nodes 5;link 0 1 1 downy;");
        due.is("a faulty text", x.text(), LabelStacks.NONE);
        due.is("nodes are left", x.look(0), 3);
        due.is("links are left", x.look(1), 2);
        due.is("bindings are left", x.look(6), 2);
        due.is("demands are left", x.look(7), 8);
        due.is("kept ways are left", x.look(8), 1);
        due.is("the way is left", x.look(4), 2);
        Due.feedAll(x, "nodes 5;link 3 4 1;");
        due.is("a good text", x.text(), 1);
        due.is("new nodes", x.look(0), 5);
        due.is("no bindings", x.look(6), 0);
        due.is("no demands", x.look(7), 0);
        due.is("no kept ways", x.look(8), 0);
        due.is("no way", x.look(4), 0);
        due.row("the stack stays", x, 1, 2);
        due.is("depth stays", x.look(3), 7);
        due.is("take() of none", x.take(0), LabelStacks.NONE);
        due.is("undo()", x.undo(), 3);
        due.is("nodes again", x.look(0), 3);
        due.row("the way again", x, 0, 0, 1);
        due.is("kept again", x.look(8), 1);
        due.is("demand again", x.demandOf(3, 1), 9);
        due.is("binding again", x.binding(1, 10), 2);
        due.is("the tape does not come back", x.look(10), 0);
    }

    private static void tapeItself() {
        LabelStacks x = new LabelStacks();
        due.is("fault(0) of a new one", x.fault(0), 0);
        due.is("fault(1) of a new one", x.fault(1), LabelStacks.NONE);
        due.is("fault(2)", x.fault(2), LabelStacks.NONE);
        due.is("fault(-1)", x.fault(-1), LabelStacks.NONE);
        for (int i = 1; i <= 25; i++) {
            due.is("feed()", x.feed(i, i, i, i, i), 20 * i);
        }
        due.is("feed() beyond 500", x.feed(1, 1, 1, 1, 1), LabelStacks.NONE);
        due.is("none came", x.look(10), 500);
        due.is("end(501)", x.end(501), false);
        due.is("end(-1)", x.end(-1), false);
        due.is("end(500)", x.end(500), true);
        due.is("end(481)", x.end(481), true);
        due.is("feed() at 481", x.feed(1, 1, 1, 1, 1), LabelStacks.NONE);
        due.is("end(482)", x.end(482), false);
        due.is("end(480)", x.end(480), true);
        due.is("feed() at 480", x.feed(1, 1, 1, 1, 1), 500);
        due.is("end(0)", x.end(0), true);
        StringBuilder full = new StringBuilder("nodes 7;");
        while (full.length() < 500) {
            full.append(' ');
        }
        Due.feedAll(x, full.toString());
        due.is("a full tape", x.text(), 0);
        due.is("its nodes", x.look(0), 7);
        x.end(0);
        Due.feedAll(x, "nodes 10;");
        x.end(7);
        due.is("what was cut off is gone, a digit", x.text(), LabelStacks.NONE);
        due.is("1 node can't be", x.fault(0), 2);
        Due.feedAll(x, "nodesx");
        x.end(5);
        due.is("what was cut off is gone, a letter", x.text(), LabelStacks.NONE);
        due.is("at the end", x.fault(1), 5);
        Due.feedAll(x, "nodes");
        x.nodes(4);
        due.is("nodes() leaves the tape", x.look(10), 5);
        due.is("faulty", x.text(), LabelStacks.NONE);
        x.nodes(4);
        due.is("nodes() leaves the fault", x.fault(0), 1);
        due.is("and its place", x.fault(1), 5);
        x.undo();
        due.is("undo() leaves the fault", x.fault(0), 1);
    }
}
