import java.math.BigInteger;
import java.util.ArrayDeque;
import java.util.ArrayList;
import java.util.Arrays;
import java.util.Deque;
import java.util.HashMap;
import java.util.List;
import java.util.Map;
import java.util.regex.Matcher;
import java.util.regex.Pattern;

/**
 * The document's words taken literally and slowly, with the Java library: stacks are tried one by
 * one, shares follow every row of links, repairs are sought among all ways. It shares no code and as
 * few ideas as may be with the class under test.
 */
final class SlowModel {
    private static final int NONE = -1;

    /** All that an act undone brings back. */
    private static final class World {
        int n = 2;
        List<int[]> links = new ArrayList<>(); // from, to, cost, up
        Map<Integer, Integer> holder = new HashMap<>();
        Map<Integer, List<Integer>> bound = new HashMap<>();
        Map<Integer, int[]> demands = new HashMap<>(); // node, volume
        Map<Integer, List<Integer>> demandStacks = new HashMap<>();
        List<List<Integer>> kept = new ArrayList<>();
        List<Integer> way = new ArrayList<>();

        World copy() {
            World w = new World();
            w.n = n;
            for (int[] l : links) {
                w.links.add(l.clone());
            }
            w.holder.putAll(holder);
            bound.forEach((k, v) -> w.bound.put(k, new ArrayList<>(v)));
            demands.forEach((k, v) -> w.demands.put(k, v.clone()));
            demandStacks.forEach((k, v) -> w.demandStacks.put(k, new ArrayList<>(v)));
            for (List<Integer> k : kept) {
                w.kept.add(new ArrayList<>(k));
            }
            w.way.addAll(way);
            return w;
        }
    }

    private static final class Fraction {
        static final Fraction ZERO = new Fraction(BigInteger.ZERO, BigInteger.ONE);
        static final Fraction ONE = new Fraction(BigInteger.ONE, BigInteger.ONE);
        final BigInteger a;
        final BigInteger b;

        Fraction(BigInteger a, BigInteger b) {
            BigInteger g = a.gcd(b);
            this.a = a.divide(g);
            this.b = b.divide(g);
        }

        Fraction plus(Fraction o) {
            return new Fraction(a.multiply(o.b).add(o.a.multiply(b)), b.multiply(o.b));
        }

        Fraction by(long k) {
            return new Fraction(a, b.multiply(BigInteger.valueOf(k)));
        }

        Fraction times(long k) {
            return new Fraction(a.multiply(BigInteger.valueOf(k)), b);
        }

        int compareTo(Fraction o) {
            return a.multiply(o.b).compareTo(o.a.multiply(b));
        }
    }

    private static final class Trip {
        int node;
        int dropped = NONE;
        boolean exact = true;
        int high;
        List<Integer> course = new ArrayList<>();
        Fraction[] shares;
    }

    private World w = new World();
    private List<Integer> stack = new ArrayList<>();
    private int depth = 5;
    private final Deque<World> acts = new ArrayDeque<>();
    private World imageWorld;
    private List<Integer> imageStack;
    private int imageDepth;
    private StringBuilder tape = new StringBuilder();
    private int faultKind;
    private int faultPlace = NONE;
    private Integer[][] farTable;

    // ---- for the generator of runs ----

    int wayEndOrNone() {
        return w.way.isEmpty() ? NONE : w.links.get(w.way.get(w.way.size() - 1))[1];
    }

    int[] linksFrom(int node) {
        return w.links.stream().filter(l -> node == NONE || l[0] == node).mapToInt(w.links::indexOf).toArray();
    }

    // ---- the network ----

    private void act() {
        acts.push(w.copy());
        while (acts.size() > 6) {
            acts.removeLast();
        }
        farTable = null;
    }

    private boolean node(int v) {
        return 0 <= v && v < w.n;
    }

    private boolean isLink(int l) {
        return 0 <= l && l < w.links.size();
    }

    boolean nodes(int n) {
        if (n < 2 || n > 10) {
            return false;
        }
        act();
        w = new World();
        w.n = n;
        return true;
    }

    int link(int from, int to, int cost) {
        if (!node(from) || !node(to) || from == to || cost < 1 || cost > 99 || w.links.size() == 30) {
            return NONE;
        }
        act();
        w.links.add(new int[] {from, to, cost, 1});
        return w.links.size() - 1;
    }

    int state(int link, boolean up) {
        if (!isLink(link)) {
            return NONE;
        }
        act();
        int was = w.links.get(link)[3];
        w.links.get(link)[3] = up ? 1 : 0;
        return was;
    }

    int cost(int link, int cost) {
        if (!isLink(link) || cost < 1 || cost > 99) {
            return NONE;
        }
        act();
        int was = w.links.get(link)[2];
        w.links.get(link)[2] = cost;
        return was;
    }

    boolean bind(int b, int node) {
        if (b < 0 || b > 5 || !node(node) || stack.isEmpty() || stack.size() > 6) {
            return false;
        }
        if (stack.stream().anyMatch(label -> label >= 200)) {
            return false;
        }
        act();
        w.holder.put(b, node);
        w.bound.put(b, new ArrayList<>(stack));
        return true;
    }

    boolean unbind(int b) {
        if (!w.holder.containsKey(b)) {
            return false;
        }
        act();
        w.holder.remove(b);
        w.bound.remove(b);
        return true;
    }

    boolean depth(int d) {
        if (d < 1 || d > 12) {
            return false;
        }
        depth = d;
        return true;
    }

    int on(int link) {
        if (!isLink(link) || w.way.size() == 16) {
            return NONE;
        }
        if (!w.way.isEmpty() && wayEndOrNone() != w.links.get(link)[0]) {
            return NONE;
        }
        w.way.add(link);
        return w.way.size();
    }

    int off(int n) {
        if (n < 0 || n > w.way.size()) {
            return NONE;
        }
        w.way = new ArrayList<>(w.way.subList(0, w.way.size() - n));
        return w.way.size();
    }

    int label(int label) {
        boolean is = label >= 0 && label <= 9 || label >= 100 && label <= 129 || label >= 200 && label <= 205;
        if (!is || stack.size() == 12) {
            return NONE;
        }
        stack.add(label);
        return stack.size();
    }

    int pop(int n) {
        if (n < 0 || n > stack.size()) {
            return NONE;
        }
        stack = new ArrayList<>(stack.subList(n, stack.size()));
        return stack.size();
    }

    // ---- far, on, paths ----

    private Integer farOf(int u, int v) {
        if (farTable == null) {
            farTable = new Integer[w.n][w.n];
            for (int goal = 0; goal < w.n; goal++) {
                farTable[goal][goal] = 0;
                for (int turn = 0; turn < w.n; turn++) {
                    for (int[] l : w.links) {
                        if (l[3] == 1 && farTable[l[1]][goal] != null) {
                            int sum = l[2] + farTable[l[1]][goal];
                            if (farTable[l[0]][goal] == null || sum < farTable[l[0]][goal]) {
                                farTable[l[0]][goal] = sum;
                            }
                        }
                    }
                }
            }
        }
        return farTable[u][v];
    }

    private List<Integer> onOf(int u, int v) {
        List<Integer> set = new ArrayList<>();
        if (u == v || farOf(u, v) == null) {
            return set;
        }
        for (int i = 0; i < w.links.size(); i++) {
            int[] l = w.links.get(i);
            if (l[0] == u && l[3] == 1 && farOf(l[1], v) != null && l[2] + farOf(l[1], v) == farOf(u, v)) {
                set.add(i);
            }
        }
        return set;
    }

    private long pathsOf(int u, int v) {
        if (u == v) {
            return 1;
        }
        long sum = 0;
        for (int l : onOf(u, v)) {
            sum += pathsOf(w.links.get(l)[1], v);
        }
        return sum;
    }

    int far(int u, int v) {
        return !node(u) || !node(v) || farOf(u, v) == null ? NONE : farOf(u, v);
    }

    long paths(int u, int v) {
        return !node(u) || !node(v) ? NONE : pathsOf(u, v);
    }

    int next(int u, int v) {
        int set = 0;
        if (node(u) && node(v)) {
            for (int l : onOf(u, v)) {
                set += 1 << l;
            }
        }
        return set;
    }

    // ---- packets ----

    private Trip trip(int start, List<Integer> labels) {
        Trip t = new Trip();
        t.node = start;
        t.high = labels.size();
        t.shares = new Fraction[w.links.size()];
        Arrays.fill(t.shares, Fraction.ZERO);
        Deque<Integer> left = new ArrayDeque<>(labels);
        for (int k = 0; !left.isEmpty(); k++) {
            int label = left.pop();
            boolean fine = label < 100 ? toNode(t, label) : label < 200 ? toLink(t, label - 100)
                : toBinding(t, left, label - 200);
            if (!fine) {
                t.dropped = k;
                t.exact = false;
                break;
            }
            t.high = Math.max(t.high, left.size());
        }
        return t;
    }

    private boolean toNode(Trip t, int v) {
        if (!node(v) || farOf(t.node, v) == null) {
            return false;
        }
        if (pathsOf(t.node, v) != 1) {
            t.exact = false;
        }
        spread(t, t.node, v, Fraction.ONE);
        t.node = v;
        return true;
    }

    private void spread(Trip t, int u, int v, Fraction part) {
        List<Integer> set = onOf(u, v);
        for (int l : set) {
            Fraction each = part.by(set.size());
            t.shares[l] = t.shares[l].plus(each);
            if (t.exact) {
                t.course.add(l);
            }
            spread(t, w.links.get(l)[1], v, each);
        }
    }

    private boolean toLink(Trip t, int l) {
        if (!isLink(l) || w.links.get(l)[3] == 0 || w.links.get(l)[0] != t.node) {
            return false;
        }
        t.shares[l] = t.shares[l].plus(Fraction.ONE);
        t.course.add(l);
        t.node = w.links.get(l)[1];
        return true;
    }

    private boolean toBinding(Trip t, Deque<Integer> left, int b) {
        if (!w.holder.containsKey(b) || w.holder.get(b) != t.node) {
            return false;
        }
        List<Integer> row = w.bound.get(b);
        for (int i = row.size() - 1; i >= 0; i--) {
            left.push(row.get(i));
        }
        return true;
    }

    private static int endsOf(Trip t) {
        return t.dropped == NONE ? t.node : NONE - 1 - t.dropped;
    }

    int ends(int node) {
        return node(node) ? endsOf(trip(node, stack)) : NONE;
    }

    int exact(int node) {
        return !node(node) ? NONE : trip(node, stack).exact ? 1 : 0;
    }

    int high(int node) {
        return node(node) ? trip(node, stack).high : NONE;
    }

    int course(int node) {
        if (!node(node)) {
            return NONE;
        }
        Trip t = trip(node, stack);
        if (!t.exact || t.course.isEmpty() || t.course.size() > 16) {
            return NONE;
        }
        w.way = new ArrayList<>(t.course);
        return w.way.size();
    }

    long share(int node, int link, int what) {
        if (!node(node) || !isLink(link) || what != 0 && what != 1) {
            return NONE;
        }
        Fraction f = trip(node, stack).shares[link];
        return (what == 0 ? f.a : f.b).longValueExact();
    }

    // ---- writing ----

    /** Tries stacks one by one, and has each gone by a packet. */
    private final class Search {
        final List<Integer> way;
        final int start;
        final Map<Integer, List<Integer>> coursesAt = new HashMap<>();
        final Map<Integer, Integer> leastAt = new HashMap<>();
        final List<Integer> labels = new ArrayList<>();
        final List<Integer> covered = new ArrayList<>();
        List<Integer> best;
        List<Integer> bestCovered;

        Search(List<Integer> way) {
            this.way = way;
            start = w.links.get(way.get(0))[0];
        }

        /** How many labels the rest takes at least, however high; those that can't come to the end are not tried. */
        private int least(int place) {
            return leastAt.computeIfAbsent(place, key -> {
                int best = place == way.size() ? 0 : 1000;
                for (int label = 0; label < 206 && place < way.size(); label++) {
                    int c = covers(place, label);
                    best = c > 0 ? Math.min(best, 1 + least(place + c)) : best;
                }
                return best;
            });
        }

        List<Integer> find() {
            for (int place = way.size(); place >= 0; place--) {
                least(place);
            }
            for (int length = 1; length <= depth && best == null; length++) {
                extend(0, length);
            }
            return best;
        }

        int covers(int place, int label) {
            int from = w.links.get(way.get(place))[0];
            List<Integer> course = coursesAt.computeIfAbsent(from * 1000 + label, key -> {
                Trip t = trip(from, List.of(label));
                return t.exact ? t.course : List.of();
            });
            int c = course.size();
            return c > 0 && place + c <= way.size() && way.subList(place, place + c).equals(course) ? c : 0;
        }

        void extend(int place, int left) {
            if (place == way.size()) {
                if (left == 0) {
                    judge();
                }
                return;
            }
            if (left < least(place)) {
                return;
            }
            for (int label = 0; label < 206; label++) {
                int c = covers(place, label);
                if (c > 0) {
                    labels.add(label);
                    covered.add(c);
                    extend(place + c, left - 1);
                    labels.remove(labels.size() - 1);
                    covered.remove(covered.size() - 1);
                }
            }
        }

        void judge() {
            Trip t = trip(start, labels);
            if (!t.exact || !t.course.equals(way) || t.high > depth) {
                return;
            }
            if (best == null || isAhead()) {
                best = new ArrayList<>(labels);
                bestCovered = new ArrayList<>(covered);
            }
        }

        boolean isAhead() {
            for (int i = 0; i < labels.size(); i++) {
                if (!covered.get(i).equals(bestCovered.get(i))) {
                    return covered.get(i) > bestCovered.get(i);
                }
                if (!labels.get(i).equals(best.get(i))) {
                    return labels.get(i) < best.get(i);
                }
            }
            return false;
        }
    }

    private List<Integer> fewest(List<Integer> way) {
        return new Search(way).find();
    }

    int write() {
        List<Integer> row = w.way.isEmpty() ? null : fewest(w.way);
        if (row == null) {
            return NONE;
        }
        stack = new ArrayList<>(row);
        return stack.size();
    }

    int witness() {
        if (w.way.isEmpty() || fewest(w.way) != null) {
            return NONE;
        }
        int place = w.way.size() - 1;
        while (fewest(w.way.subList(place, w.way.size())) != null) {
            place--;
        }
        return place;
    }

    int greedy() {
        int count = 0;
        for (int i = 0; i < w.way.size(); count++) {
            int c = covers(i);
            if (c == 0 && w.links.get(w.way.get(i))[3] == 0) {
                return NONE;
            }
            i += c == 0 ? 1 : c;
        }
        return count;
    }

    int covers(int i) {
        if (i < 0 || i >= w.way.size()) {
            return NONE;
        }
        Search search = new Search(w.way);
        int most = 0;
        for (int v = 0; v < 10; v++) {
            most = Math.max(most, search.covers(i, v));
        }
        return most;
    }

    // ---- demands ----

    boolean demand(int d, int node, int volume) {
        if (d < 0 || d > 7 || !node(node) || volume < 1 || volume > 99) {
            return false;
        }
        act();
        w.demands.put(d, new int[] {node, volume});
        w.demandStacks.put(d, new ArrayList<>(stack));
        return true;
    }

    private Fraction[] loads() {
        Fraction[] sums = new Fraction[w.links.size()];
        Arrays.fill(sums, Fraction.ZERO);
        for (int d : w.demands.keySet()) {
            Trip t = trip(w.demands.get(d)[0], w.demandStacks.get(d));
            for (int l = 0; l < sums.length && t.dropped == NONE; l++) {
                sums[l] = sums[l].plus(t.shares[l].times(w.demands.get(d)[1]));
            }
        }
        return sums;
    }

    long load(int link, int what) {
        if (!isLink(link) || what != 0 && what != 1) {
            return NONE;
        }
        Fraction f = loads()[link];
        return (what == 0 ? f.a : f.b).longValueExact();
    }

    int heaviest() {
        Fraction[] sums = loads();
        int best = NONE;
        Fraction most = Fraction.ZERO;
        for (int l = 0; l < sums.length; l++) {
            if (sums[l].compareTo(most) > 0) {
                most = sums[l];
                best = l;
            }
        }
        return best;
    }

    // ---- repairs ----

    private List<Integer> roundBest;
    private int roundCost;

    private List<Integer> roundOf(int link, int goal) {
        roundBest = null;
        roundCost = Integer.MAX_VALUE;
        int start = w.links.get(link)[0];
        seekRound(link, start, goal, new ArrayList<>(), 0, 1 << start);
        return roundBest;
    }

    /** Rows come in the order of their numbers, so that only a cheaper one takes the place. */
    private void seekRound(int barred, int u, int goal, List<Integer> row, int cost, int seen) {
        if (cost >= roundCost) {
            return;
        }
        if (u == goal) {
            roundBest = new ArrayList<>(row);
            roundCost = cost;
            return;
        }
        for (int i = 0; i < w.links.size(); i++) {
            int[] l = w.links.get(i);
            if (i != barred && l[0] == u && l[3] == 1 && (seen >> l[1] & 1) == 0) {
                row.add(i);
                seekRound(barred, l[1], goal, row, cost + l[2], seen | 1 << l[1]);
                row.remove(row.size() - 1);
            }
        }
    }

    int repair(int link, int node) {
        if (!isLink(link) || !node(node)) {
            return NONE;
        }
        List<Integer> way = roundOf(link, node);
        List<Integer> row = way == null || way.isEmpty() || way.size() > 16 ? null : fewest(way);
        if (row == null) {
            return NONE;
        }
        w.way = new ArrayList<>(way);
        stack = new ArrayList<>(row);
        return stack.size();
    }

    int guards(int what) {
        if (w.way.isEmpty() || what < 0 || what > 2) {
            return NONE;
        }
        int[] answers = new int[3];
        for (int i = 0; i < w.way.size(); i++) {
            List<Integer> way = roundOf(w.way.get(i), wayEndOrNone());
            List<Integer> row = way == null || way.isEmpty() ? null : fewest(way);
            if (row != null) {
                answers[0] += 1 << i;
                answers[1] = Math.max(answers[1], row.size());
                answers[2] = Math.max(answers[2], costOf(w.way.subList(0, i)) + costOf(way));
            }
        }
        return answers[what];
    }

    private int costOf(List<Integer> way) {
        return way.stream().mapToInt(l -> w.links.get(l)[2]).sum();
    }

    int writable(int a, int b, int k, int d) {
        if (!node(a) || !node(b) || a == b || k < 1 || k > 6 || d < 1 || d > 12) {
            return NONE;
        }
        return countWays(a, b, k, d, new ArrayList<>(), 1 << a);
    }

    private int countWays(int u, int b, int k, int d, List<Integer> row, int seen) {
        if (u == b) {
            List<Integer> labels = fewest(row);
            return labels != null && labels.size() <= d ? 1 : 0;
        }
        int found = 0;
        for (int i = 0; i < w.links.size() && row.size() < k; i++) {
            int[] l = w.links.get(i);
            if (l[0] == u && l[3] == 1 && (seen >> l[1] & 1) == 0) {
                row.add(i);
                found += countWays(l[1], b, k, d, row, seen | 1 << l[1]);
                row.remove(row.size() - 1);
            }
        }
        return found;
    }

    int stays(int link, int what) {
        if (!isLink(link) || w.way.isEmpty() || what < 0 || what > 1) {
            return NONE;
        }
        int own = w.links.get(link)[2];
        int now = sizeAt(link, own);
        int edge = own;
        int step = what == 0 ? -1 : 1;
        while (edge + step >= 1 && edge + step <= 99 && sizeAt(link, edge + step) == now) {
            edge += step;
        }
        sizeAt(link, own);
        return edge;
    }

    private int sizeAt(int link, int cost) {
        w.links.get(link)[2] = cost;
        farTable = null;
        List<Integer> row = fewest(w.way);
        return row == null ? NONE : row.size();
    }

    // ---- kept ways ----

    int keep() {
        if (w.way.isEmpty()) {
            return NONE;
        }
        if (w.kept.contains(w.way)) {
            return w.kept.indexOf(w.way);
        }
        if (w.kept.size() == 12) {
            return NONE;
        }
        act();
        w.kept.add(new ArrayList<>(w.way));
        return w.kept.size() - 1;
    }

    int take(int kept) {
        if (kept < 0 || kept >= w.kept.size()) {
            return NONE;
        }
        w.way = new ArrayList<>(w.kept.get(kept));
        return w.way.size();
    }

    // ---- the text ----

    int feed(int a, int b, int c, int d, int e) {
        if (tape.length() > 480) {
            return NONE;
        }
        for (int four : new int[] {a, b, c, d, e}) {
            for (int i = 3; i >= 0; i--) {
                tape.append((char) (four >> 8 * i & 255));
            }
        }
        return tape.length();
    }

    boolean end(int n) {
        if (n < 0 || n > tape.length()) {
            return false;
        }
        tape.setLength(n);
        return true;
    }

    private static final class Fault extends RuntimeException {
        private static final long serialVersionUID = 1L;
        final int kind;
        final int place;

        Fault(int kind, int place) {
            this.kind = kind;
            this.place = place;
        }
    }

    /** The next piece, with the place where it begins behind the blanks; all that fits or a fault. */
    private String piece(String pattern) {
        closePiece(" *");
        return closePiece(pattern);
    }

    private String closePiece(String pattern) {
        start = spot;
        Matcher scan = Pattern.compile(pattern).matcher(tapeText);
        scan.region(spot, tapeText.length());
        if (!scan.lookingAt()) {
            throw new Fault(1, spot);
        }
        spot = scan.end();
        return scan.group();
    }

    private String tapeText;
    private int spot;
    private int start;

    private int number(String digits, int least, int most) {
        BigInteger value = new BigInteger(digits);
        if (value.compareTo(BigInteger.valueOf(least)) < 0 || value.compareTo(BigInteger.valueOf(most)) > 0) {
            throw new Fault(2, start);
        }
        return value.intValue();
    }

    private World parse() {
        World told = new World();
        piece("nodes(?![a-z])");
        told.n = number(piece("[0-9]+"), 2, 10);
        piece(";");
        while (!tapeText.substring(spot).matches(" *")) {
            String word = piece("(link|bind)(?![a-z])");
            if (word.equals("link")) {
                parseLink(told);
            } else {
                parseBinding(told);
            }
        }
        return told;
    }

    private void parseLink(World told) {
        if (told.links.size() == 30) {
            throw new Fault(3, start);
        }
        int u = number(piece("[0-9]+"), 0, told.n - 1);
        int v = number(piece("[0-9]+"), 0, told.n - 1);
        if (u == v) {
            throw new Fault(2, start);
        }
        int cost = number(piece("[0-9]+"), 1, 99);
        boolean down = piece(";|down(?![a-z])").equals("down");
        if (down) {
            piece(";");
        }
        told.links.add(new int[] {u, v, cost, down ? 0 : 1});
    }

    private void parseBinding(World told) {
        int b = number(piece("[0-9]+"), 0, 5);
        if (told.holder.containsKey(b)) {
            throw new Fault(3, start);
        }
        piece("at(?![a-z])");
        told.holder.put(b, number(piece("[0-9]+"), 0, told.n - 1));
        piece(":");
        List<Integer> row = new ArrayList<>();
        told.bound.put(b, row);
        String kind = piece("[nl](?![a-z])");
        while (!kind.equals(";")) {
            if (row.size() == 6) {
                throw new Fault(4, start);
            }
            String digits = closePiece("[0-9]+");
            row.add(kind.equals("n") ? number(digits, 0, 9) : 100 + number(digits, 0, 29));
            kind = piece("[nl](?![a-z])|;");
        }
    }

    int text() {
        tapeText = tape.toString();
        tape = new StringBuilder();
        spot = 0;
        World told;
        try {
            told = parse();
        } catch (Fault fault) {
            faultKind = fault.kind;
            faultPlace = fault.place;
            return NONE;
        }
        faultKind = 0;
        faultPlace = NONE;
        act();
        w = told;
        return w.links.size();
    }

    int fault(int what) {
        return what == 0 ? faultKind : what == 1 ? faultPlace : NONE;
    }

    // ---- acts, what is, the image ----

    int undo() {
        if (acts.isEmpty()) {
            return NONE;
        }
        w = acts.pop();
        farTable = null;
        return acts.size();
    }

    int at(int i, int what) {
        List<Integer> row = what == 0 ? w.way : what == 1 ? stack : List.of();
        return i < 0 || i >= row.size() ? NONE : row.get(i);
    }

    int linkOf(int link, int what) {
        return !isLink(link) || what < 0 || what > 3 ? NONE : w.links.get(link)[what];
    }

    int binding(int b, int what) {
        if (!w.holder.containsKey(b)) {
            return NONE;
        }
        List<Integer> row = w.bound.get(b);
        if (what == 0) {
            return w.holder.get(b);
        }
        if (what == 1) {
            return row.size();
        }
        return what >= 10 && what < 10 + row.size() ? row.get(what - 10) : NONE;
    }

    int demandOf(int d, int what) {
        if (!w.demands.containsKey(d) || what < 0 || what > 3) {
            return NONE;
        }
        int[] pair = w.demands.get(d);
        List<Integer> row = w.demandStacks.get(d);
        return what < 2 ? pair[what] : what == 2 ? row.size() : endsOf(trip(pair[0], row));
    }

    boolean image(boolean taken) {
        if (taken) {
            imageWorld = w.copy();
            imageStack = new ArrayList<>(stack);
            imageDepth = depth;
            return true;
        }
        if (imageWorld == null) {
            return false;
        }
        w = imageWorld.copy();
        stack = new ArrayList<>(imageStack);
        depth = imageDepth;
        acts.clear();
        farTable = null;
        return true;
    }

    int look(int what) {
        int up = 0;
        for (int i = 0; i < w.links.size(); i++) {
            up += w.links.get(i)[3] << i;
        }
        int[] all = {w.n, w.links.size(), up, depth, w.way.size(), stack.size(),
            w.holder.keySet().stream().mapToInt(b -> 1 << b).sum(),
            w.demands.keySet().stream().mapToInt(d -> 1 << d).sum(),
            w.kept.size(), acts.size(), tape.length(), costOf(w.way),
            w.way.isEmpty() ? NONE : w.links.get(w.way.get(0))[0], wayEndOrNone()};
        return what < 0 || what >= all.length ? NONE : all[what];
    }
}
