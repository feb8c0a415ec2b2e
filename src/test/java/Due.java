/** Counts what is not as due, and says so; shared by the tests that are written by hand. */
final class Due {
    private final String name;
    private int asked;
    private int wrong;

    Due(String name) {
        this.name = name;
    }

    void is(String what, long got, long want) {
        asked++;
        if (got != want) {
            wrong++;
            System.out.println(name + ": " + what + " answered " + got + ", due is " + want);
        }
    }

    void is(String what, boolean got, boolean want) {
        is(what, got ? 1 : 0, want ? 1 : 0);
    }

    /** A row of labels (what 1) or links (what 0), whole. */
    void row(String what, LabelStacks x, int which, int... want) {
        is(what + ", how many", x.look(which == 0 ? 4 : 5), want.length);
        for (int i = 0; i < want.length; i++) {
            is(what + ", at " + i, x.at(i, which), want[i]);
        }
    }

    void close() {
        System.out.println(name + ": " + asked + " answers, " + wrong + " not as due");
        if (wrong != 0) {
            System.exit(1);
        }
    }

    /** Feeds a text of any length up to 500 and cuts the tape to it. */
    static void feedAll(LabelStacks x, String text) {
        int before = x.look(10);
        byte[] bytes = new byte[(text.length() + 19) / 20 * 20];
        for (int i = 0; i < text.length(); i++) {
            bytes[i] = (byte) text.charAt(i);
        }
        for (int i = 0; i < bytes.length; i += 20) {
            int[] w = new int[5];
            for (int j = 0; j < 20; j++) {
                w[j / 4] = w[j / 4] << 8 | bytes[i + j] & 255;
            }
            x.feed(w[0], w[1], w[2], w[3], w[4]);
        }
        x.end(before + text.length());
    }

    static LabelStacks told(String text) {
        LabelStacks x = new LabelStacks();
        feedAll(x, text);
        if (x.text() == LabelStacks.NONE) {
            throw new IllegalStateException("the test's own text has a fault: " + text);
        }
        return x;
    }

    static void labels(LabelStacks x, int... labels) {
        x.pop(x.look(5));
        for (int label : labels) {
            x.label(label);
        }
    }

    static void way(LabelStacks x, int... links) {
        x.off(x.look(4));
        for (int link : links) {
            x.on(link);
        }
    }
}
