/** All that can be seen of an object, as a text; asking for it changes nothing. */
final class Seen {
    private Seen() {
    }

    static String all(LabelStacks x) {
        return world(x) + hand(x) + rest(x);
    }

    /** What an act undone brings back: nodes, links, bindings, demands, kept ways, THE WAY. */
    static String world(LabelStacks x) {
        StringBuilder text = new StringBuilder("nodes " + x.look(0) + ", up " + x.look(2) + "\n");
        for (int l = 0; l < x.look(1); l++) {
            text.append("link ").append(l);
            for (int what = 0; what < 4; what++) {
                text.append(' ').append(x.linkOf(l, what));
            }
            text.append('\n');
        }
        for (int b = 0; b < 6; b++) {
            if ((x.look(6) >> b & 1) != 0) {
                text.append("binding ").append(b).append(" at ").append(x.binding(b, 0)).append(':');
                for (int i = 0; i < x.binding(b, 1); i++) {
                    text.append(' ').append(x.binding(b, 10 + i));
                }
                text.append('\n');
            }
        }
        for (int d = 0; d < 8; d++) {
            if ((x.look(7) >> d & 1) != 0) {
                text.append("demand ").append(d).append(':');
                for (int what = 0; what < 4; what++) {
                    text.append(' ').append(x.demandOf(d, what));
                }
                text.append('\n');
            }
        }
        return text + kept(x);
    }

    /** THE WAY is put aside while the kept ones are taken, and put back. */
    private static String kept(LabelStacks x) {
        int[] way = row(x, 0);
        StringBuilder text = new StringBuilder("way " + java.util.Arrays.toString(way) + "\n");
        if (x.look(8) == 0) {
            return text.toString();
        }
        for (int k = 0; k < x.look(8); k++) {
            x.take(k);
            text.append("kept ").append(k).append(' ').append(java.util.Arrays.toString(row(x, 0))).append('\n');
        }
        x.off(x.look(4));
        for (int link : way) {
            x.on(link);
        }
        return text.toString();
    }

    /** THE STACK and DEPTH. */
    static String hand(LabelStacks x) {
        return "stack " + java.util.Arrays.toString(row(x, 1)) + ", depth " + x.look(3) + "\n";
    }

    /** THE TAPE's length, the fault, how many acts. */
    static String rest(LabelStacks x) {
        return "tape " + x.look(10) + ", fault " + x.fault(0) + " at " + x.fault(1) + ", acts " + x.look(9) + "\n";
    }

    static int[] row(LabelStacks x, int which) {
        int[] row = new int[x.look(which == 0 ? 4 : 5)];
        for (int i = 0; i < row.length; i++) {
            row[i] = x.at(i, which);
        }
        return row;
    }
}
