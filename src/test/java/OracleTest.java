import java.util.ArrayDeque;
import java.util.Deque;
import java.util.List;
import java.util.Random;
import java.util.stream.Collectors;
import java.util.stream.LongStream;

/** Random runs of calls, each answer held against SlowModel's; the seeds are fixed. */
public final class OracleTest {
    private static final int RUNS = Integer.getInteger("runs", 600);
    private static final long FIRST = Long.getLong("first", 1L);
    private static final int CALLS = 512;

    private final long seed;
    private final Random random;
    private final LabelStacks real = new LabelStacks();
    private final SlowModel slow = new SlowModel();
    private final Deque<String> log = new ArrayDeque<>();
    private final int costs;
    private final int size;
    private int calls;
    private boolean wrong;

    private OracleTest(long seed) {
        this.seed = seed;
        random = new Random(seed);
        costs = new int[] {1, 2, 3, 5, 20, 99}[random.nextInt(6)];
        size = 2 + random.nextInt(9);
    }

    public static void main(String[] args) {
        List<OracleTest> done = LongStream.range(FIRST, FIRST + RUNS).parallel().mapToObj(OracleTest::new)
            .peek(OracleTest::go).collect(Collectors.toList());
        int bad = 0;
        int all = 0;
        for (OracleTest run : done) {
            all += run.calls;
            bad += run.wrong ? 1 : 0;
            if (run.wrong && bad <= 3) {
                System.out.println("OracleTest: seed " + run.seed + ", call " + run.calls + ", the last calls:");
                run.log.forEach(System.out::println);
            }
        }
        System.out.println("OracleTest: " + all + " calls compared, " + bad + " runs are not alike");
        if (bad != 0) {
            System.exit(1);
        }
    }

    private void go() {
        if (random.nextInt(4) == 0) {
            tellText(false);
        } else {
            check("nodes(" + size + ")", real.nodes(size), slow.nodes(size));
        }
        int first = random.nextInt(31);
        for (int i = 0; i < first; i++) {
            addLink();
        }
        while (calls < CALLS && !wrong) {
            step();
        }
    }

    private void check(String call, long got, long want) {
        calls++;
        log.add(call + " answered " + got + (got == want ? "" : ", due is " + want));
        if (log.size() > 60) {
            log.removeFirst();
        }
        wrong |= got != want;
    }

    private void check(String call, boolean got, boolean want) {
        check(call, got ? 1 : 0, want ? 1 : 0);
    }

    /** A number from least to most, now and then one beside them. */
    private int about(int least, int most) {
        switch (random.nextInt(40)) {
            case 0:
                return least - 1;
            case 1:
                return most + 1;
            case 2:
                return random.nextInt();
            case 3:
                return random.nextBoolean() ? Integer.MIN_VALUE : Integer.MAX_VALUE;
            default:
                return least + random.nextInt(Math.max(1, most - least + 1));
        }
    }

    private int aNode() {
        return about(0, slow.look(0) - 1);
    }

    private int aLink() {
        return about(0, Math.max(0, slow.look(1) - 1));
    }

    private int aCost() {
        return about(1, costs);
    }

    private int aLabel() {
        switch (random.nextInt(5)) {
            case 0:
                return 100 + aLink();
            case 1:
                return 200 + about(0, 5);
            case 2:
                return about(0, 9);
            default:
                return aNode();
        }
    }

    private void addLink() {
        int u = aNode();
        int v = aNode();
        int c = aCost();
        check("link(" + u + ", " + v + ", " + c + ")", real.link(u, v, c), slow.link(u, v, c));
    }

    private void goOn() {
        int[] fitting = slow.linksFrom(slow.wayEndOrNone());
        int l = fitting.length == 0 || random.nextInt(8) == 0 ? aLink() : fitting[random.nextInt(fitting.length)];
        check("on(" + l + ")", real.on(l), slow.on(l));
    }

    /** A label that goes somewhere from where the stack ends now, so that long stacks are not all dropped. */
    private void goOnByLabel() {
        int end = slow.ends(random.nextInt(Math.max(1, slow.look(0))));
        int[] fitting = end < 0 ? new int[0] : slow.linksFrom(end);
        int label = fitting.length == 0 || random.nextInt(3) != 0 ? aLabel() : 100 + fitting[random.nextInt(fitting.length)];
        check("label(" + label + ")", real.label(label), slow.label(label));
    }

    /** A binding that may fit THE WAY, as those of random labels hardly ever do. */
    private void bindAlong() {
        int length = slow.look(4);
        if (length == 0) {
            return;
        }
        int place = random.nextInt(length);
        int node = slow.linkOf(slow.at(place, 0), 0);
        int start = node;
        int held = slow.look(5);
        check("pop(" + held + ")", real.pop(held), slow.pop(held));
        for (int count = 1 + random.nextInt(6); count > 0; count--) {
            int label = node;
            if (place < length && random.nextInt(8) != 0) {
                int links = 1 + random.nextInt(Math.min(2, length - place));
                place += links;
                node = slow.linkOf(slow.at(place - 1, 0), 1);
                label = links == 1 && random.nextBoolean() ? 100 + slow.at(place - 1, 0) : node;
            }
            check("label(" + label + ")", real.label(label), slow.label(label));
        }
        int b = random.nextInt(6);
        check("bind(" + b + ", " + start + ")", real.bind(b, start), slow.bind(b, start));
        check("write()", real.write(), slow.write());
        for (int i = 0; i < slow.look(5); i++) {
            check("at(" + i + ", 1)", real.at(i, 1), slow.at(i, 1));
        }
    }

    private void step() {
        int kind = random.nextInt(100);
        if (kind < 11) {
            goOn();
        } else if (kind < 14) {
            bindAlong();
        } else if (kind < 26) {
            goOnByLabel();
        } else if (kind < 40) {
            changeNetwork();
        } else if (kind < 52) {
            askWay();
        } else if (kind < 66) {
            askPacket();
        } else if (kind < 74) {
            askDear();
        } else if (kind < 80) {
            trim();
        } else {
            askRest();
        }
    }

    private void changeNetwork() {
        switch (random.nextInt(14)) {
            case 0: {
                if (random.nextInt(6) == 0) {
                    int n = about(2, 10);
                    check("nodes(" + n + ")", real.nodes(n), slow.nodes(n));
                }
                break;
            }
            case 1:
            case 2:
                addLink();
                break;
            case 3:
            case 4: {
                int l = aLink();
                boolean up = random.nextInt(3) != 0;
                check("state(" + l + ", " + up + ")", real.state(l, up), slow.state(l, up));
                break;
            }
            case 5:
            case 6: {
                int l = aLink();
                int c = aCost();
                check("cost(" + l + ", " + c + ")", real.cost(l, c), slow.cost(l, c));
                break;
            }
            case 7:
            case 8: {
                int b = about(0, 5);
                int v = aNode();
                check("bind(" + b + ", " + v + ")", real.bind(b, v), slow.bind(b, v));
                break;
            }
            case 9: {
                int b = about(0, 5);
                check("unbind(" + b + ")", real.unbind(b), slow.unbind(b));
                break;
            }
            case 10: {
                int d = about(1, 12);
                check("depth(" + d + ")", real.depth(d), slow.depth(d));
                break;
            }
            case 11:
            case 12:
                check("undo()", real.undo(), slow.undo());
                break;
            default:
                if (random.nextInt(8) == 0) {
                    tellText(random.nextBoolean());
                } else {
                    boolean taken = random.nextBoolean();
                    check("image(" + taken + ")", real.image(taken), slow.image(taken));
                }
        }
    }

    private void askWay() {
        switch (random.nextInt(7)) {
            case 0:
            case 1:
                check("write()", real.write(), slow.write());
                break;
            case 2:
                check("witness()", real.witness(), slow.witness());
                break;
            case 3:
                check("greedy()", real.greedy(), slow.greedy());
                break;
            case 4: {
                int i = about(0, 15);
                check("covers(" + i + ")", real.covers(i), slow.covers(i));
                break;
            }
            case 5:
                check("keep()", real.keep(), slow.keep());
                break;
            default: {
                int k = about(0, 11);
                check("take(" + k + ")", real.take(k), slow.take(k));
            }
        }
    }

    private void askPacket() {
        int v = aNode();
        switch (random.nextInt(7)) {
            case 0:
                check("ends(" + v + ")", real.ends(v), slow.ends(v));
                break;
            case 1:
                check("exact(" + v + ")", real.exact(v), slow.exact(v));
                break;
            case 2:
                check("high(" + v + ")", real.high(v), slow.high(v));
                break;
            case 3:
                check("course(" + v + ")", real.course(v), slow.course(v));
                break;
            case 4: {
                int d = about(0, 7);
                int volume = about(1, 99);
                check("demand(" + d + ", " + v + ", " + volume + ")", real.demand(d, v, volume), slow.demand(d, v, volume));
                break;
            }
            default: {
                int l = aLink();
                int what = about(0, 1);
                check("share(" + v + ", " + l + ", " + what + ")", real.share(v, l, what), slow.share(v, l, what));
            }
        }
    }

    private void askDear() {
        int l = aLink();
        int v = aNode();
        switch (random.nextInt(6)) {
            case 0:
                check("repair(" + l + ", " + v + ")", real.repair(l, v), slow.repair(l, v));
                break;
            case 1: {
                int what = about(0, 2);
                check("guards(" + what + ")", real.guards(what), slow.guards(what));
                break;
            }
            case 2: {
                int u = aNode();
                int k = about(1, 6);
                int d = about(1, random.nextBoolean() ? 3 : 12);
                check("writable(" + u + ", " + v + ", " + k + ", " + d + ")", real.writable(u, v, k, d), slow.writable(u, v, k, d));
                break;
            }
            case 3: {
                int what = about(0, 1);
                check("stays(" + l + ", " + what + ")", real.stays(l, what), slow.stays(l, what));
                break;
            }
            case 4: {
                int what = about(0, 1);
                check("load(" + l + ", " + what + ")", real.load(l, what), slow.load(l, what));
                break;
            }
            default:
                check("heaviest()", real.heaviest(), slow.heaviest());
        }
    }

    private void trim() {
        int n = about(0, random.nextInt(5) == 0 ? 12 : 2);
        if (random.nextBoolean()) {
            check("off(" + n + ")", real.off(n), slow.off(n));
        } else {
            check("pop(" + n + ")", real.pop(n), slow.pop(n));
        }
    }

    private void askRest() {
        int what = about(0, 3);
        int u = aNode();
        int v = aNode();
        switch (random.nextInt(9)) {
            case 0: {
                int i = about(0, 15);
                what = about(0, 1);
                check("at(" + i + ", " + what + ")", real.at(i, what), slow.at(i, what));
                break;
            }
            case 1: {
                int l = aLink();
                check("linkOf(" + l + ", " + what + ")", real.linkOf(l, what), slow.linkOf(l, what));
                break;
            }
            case 2: {
                int b = about(0, 5);
                what = random.nextInt(3) == 0 ? about(0, 1) : about(10, 15);
                check("binding(" + b + ", " + what + ")", real.binding(b, what), slow.binding(b, what));
                break;
            }
            case 3: {
                int d = about(0, 7);
                check("demandOf(" + d + ", " + what + ")", real.demandOf(d, what), slow.demandOf(d, what));
                break;
            }
            case 4:
                check("far(" + u + ", " + v + ")", real.far(u, v), slow.far(u, v));
                break;
            case 5:
                check("paths(" + u + ", " + v + ")", real.paths(u, v), slow.paths(u, v));
                break;
            case 6:
                check("next(" + u + ", " + v + ")", real.next(u, v), slow.next(u, v));
                break;
            default:
                what = about(0, 13);
                check("look(" + what + ")", real.look(what), slow.look(what));
        }
    }

    // ---- texts ----

    private void tellText(boolean spoilt) {
        StringBuilder text = someText();
        for (int i = random.nextInt(spoilt ? 4 : 1); i > 0 || spoilt && i == 0; i--) {
            spoil(text);
        }
        byte[] bytes = new byte[500];
        int length = Math.min(500, text.length());
        for (int i = 0; i < length; i++) {
            bytes[i] = (byte) text.charAt(i);
        }
        check("end(0)", real.end(0), slow.end(0));
        for (int i = 0; i < length; i += 20) {
            int[] w = new int[5];
            for (int j = 0; j < 20; j++) {
                w[j / 4] = w[j / 4] << 8 | bytes[i + j] & 255;
            }
            check("feed() of " + text.substring(i, Math.min(length, i + 20)), real.feed(w[0], w[1], w[2], w[3], w[4]),
                slow.feed(w[0], w[1], w[2], w[3], w[4]));
        }
        check("end(" + length + ")", real.end(length), slow.end(length));
        check("text()", real.text(), slow.text());
        for (int what = -1; what < 3; what++) {
            check("fault(" + what + ")", real.fault(what), slow.fault(what));
        }
    }

    /** A number of a text; one that can't be is rare, since one FAULT hides all that comes behind. */
    private int told(int least, int most) {
        return random.nextInt(60) == 0 ? about(least, most) : least + random.nextInt(most - least + 1);
    }

    private StringBuilder someText() {
        StringBuilder text = new StringBuilder();
        int n = told(2, 10);
        int top = Math.max(2, Math.min(n, 11)) - 1;
        text.append(blanks(0)).append("nodes").append(blanks(0)).append(n).append(blanks(0)).append(';');
        int rows = random.nextInt(34);
        for (int i = 0; i < rows && text.length() < 480; i++) {
            if (random.nextInt(5) == 0) {
                someBinding(text, top);
            } else {
                int u = told(0, top);
                int v = random.nextInt(60) == 0 ? u : Math.floorMod(u + told(1, top), top + 1);
                text.append(blanks(0)).append("link").append(blanks(0)).append(u).append(blanks(1))
                    .append(v).append(blanks(1)).append(told(1, costs)).append(blanks(0))
                    .append(random.nextInt(4) == 0 ? "down" : "").append(blanks(0)).append(';');
            }
        }
        return text.append(blanks(0));
    }

    private void someBinding(StringBuilder text, int top) {
        text.append(blanks(0)).append("bind").append(blanks(0)).append(told(0, 5)).append(blanks(0)).append("at")
            .append(blanks(0)).append(told(0, top)).append(blanks(0)).append(':');
        for (int k = 1 + random.nextInt(random.nextInt(6) == 0 ? 7 : 6); k > 0; k--) {
            text.append(blanks(0));
            if (random.nextBoolean()) {
                text.append('n').append(told(0, 9));
            } else {
                text.append('l').append(told(0, 29));
            }
        }
        text.append(blanks(0)).append(';');
    }

    private String blanks(int least) {
        return " ".repeat(least + (random.nextInt(8) == 0 ? random.nextInt(3) : 0));
    }

    private void spoil(StringBuilder text) {
        int i = random.nextInt(text.length());
        String signs = " ;:0123456789nlatbindkdownsx" + (char) 0 + (char) 200 + "A\n";
        char sign = signs.charAt(random.nextInt(signs.length()));
        switch (random.nextInt(4)) {
            case 0:
                text.deleteCharAt(i);
                break;
            case 1:
                text.insert(i, sign);
                break;
            case 2:
                text.setCharAt(i, sign);
                break;
            default:
                text.setLength(Math.max(1, i));
        }
        if (text.length() == 0) {
            text.append(' ');
        }
    }
}
