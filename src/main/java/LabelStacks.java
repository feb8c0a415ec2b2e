import java.util.Arrays;

/**
 * Ways through a network written as stacks of labels. What each call answers is said in the
 * document's promises; the words in capital letters there are the words of the comments here.
 */
public final class LabelStacks {
    public static final int NONE = -1;

    private static final int LEAST_NODES = 2;
    private static final int NODE_LIMIT = 10;
    private static final int LINK_LIMIT = 30;
    private static final int BINDING_LIMIT = 6;
    private static final int BOUND_LIMIT = 6;
    private static final int DEMAND_LIMIT = 8;
    private static final int KEPT_LIMIT = 12;
    private static final int WAY_LIMIT = 16;
    private static final int STACK_LIMIT = 12;
    private static final int DEPTH_LIMIT = 12;
    private static final int FIRST_DEPTH = 5;
    private static final int AMOUNT_LIMIT = 99;
    private static final int WRITABLE_LINKS = 6;
    private static final int ACT_LIMIT = 6;
    private static final int TAPE_LIMIT = 500;
    private static final int FED_BYTES = 20;

    private static final int LINK_LABEL = 100;
    private static final int BINDING_LABEL = 200;

    /** Each LABEL of a full STACK may be a BINDING's, which counts beside those that it stands for. */
    private static final int LABELS_EVER = STACK_LIMIT * (1 + BOUND_LIMIT);

    /** Above every FAR that can be, and low enough that three of them added up are still an int. */
    private static final int UNREACHED = 1_000_000;
    /** Above every number of LABELS that can be. */
    private static final int UNWRITTEN = 1_000;

    private static final int CANT_STAND = 1;
    private static final int CANT_BE_NUMBER = 2;
    private static final int ONE_TOO_MANY = 3;
    private static final int SEVENTH_LABEL = 4;

    private final State state;
    private final Row stack;
    private int depth;
    private final Acts acts;
    private final State imageState;
    private final Row imageStack;
    private int imageDepth;
    private boolean imageThere;
    private final Tape tape;
    private final Routes routes;
    private final Routes without;
    private final Routes trial;
    private boolean stale;
    private final Writer writer;
    private final Packet packet;
    private final Fractions loads;
    private final Row round;

    public LabelStacks() {
        state = new State();
        stack = new Row(STACK_LIMIT);
        depth = FIRST_DEPTH;
        acts = new Acts();
        imageState = new State();
        imageStack = new Row(STACK_LIMIT);
        imageDepth = FIRST_DEPTH;
        imageThere = false;
        tape = new Tape();
        routes = new Routes();
        without = new Routes();
        trial = new Routes();
        stale = true;
        writer = new Writer();
        packet = new Packet();
        loads = new Fractions(LINK_LIMIT);
        round = new Row(WAY_LIMIT);
    }

    // ---- the network ----

    public boolean nodes(int n) {
        if (n < LEAST_NODES || n > NODE_LIMIT) {
            return false;
        }
        beginAct();
        state.net.reset(n);
        state.forgetRest();
        return true;
    }

    public int link(int from, int to, int cost) {
        Network net = state.net;
        if (!net.hasNode(from) || !net.hasNode(to) || from == to || !isAmount(cost)) {
            return NONE;
        }
        if (net.linkCount >= LINK_LIMIT) {
            return NONE;
        }
        beginAct();
        return net.addLink(from, to, cost, true);
    }

    public int state(int link, boolean up) {
        Network net = state.net;
        if (!net.hasLink(link)) {
            return NONE;
        }
        int was = net.isUp(link) ? 1 : 0;
        beginAct();
        net.setUp(link, up);
        return was;
    }

    public int cost(int link, int cost) {
        Network net = state.net;
        if (!net.hasLink(link) || !isAmount(cost)) {
            return NONE;
        }
        int was = net.cost[link];
        beginAct();
        net.cost[link] = cost;
        return was;
    }

    public boolean bind(int binding, int node) {
        if (!isBinding(binding) || !state.net.hasNode(node) || !canBeBound()) {
            return false;
        }
        beginAct();
        state.net.holder[binding] = node;
        state.net.bound.put(binding, stack);
        return true;
    }

    public boolean unbind(int binding) {
        if (!isBinding(binding) || state.net.holder[binding] == NONE) {
            return false;
        }
        beginAct();
        state.net.holder[binding] = NONE;
        state.net.bound.empty(binding);
        return true;
    }

    public boolean depth(int depth) {
        if (depth < 1 || depth > DEPTH_LIMIT) {
            return false;
        }
        this.depth = depth;
        return true;
    }

    // ---- THE WAY and THE STACK ----

    public int on(int link) {
        Network net = state.net;
        Row way = state.way;
        if (!net.hasLink(link) || way.isFull()) {
            return NONE;
        }
        if (way.size > 0 && net.from[link] != wayEnd()) {
            return NONE;
        }
        way.add(link);
        return way.size;
    }

    public int off(int n) {
        if (n < 0 || n > state.way.size) {
            return NONE;
        }
        state.way.size -= n;
        return state.way.size;
    }

    public int label(int label) {
        if (!isLabel(label) || stack.isFull()) {
            return NONE;
        }
        stack.add(label);
        return stack.size;
    }

    public int pop(int n) {
        if (n < 0 || n > stack.size) {
            return NONE;
        }
        stack.dropFirst(n);
        return stack.size;
    }

    public int write() {
        if (state.way.size == 0 || !planned(state.way)) {
            return NONE;
        }
        writer.stackInto(stack);
        return stack.size;
    }

    public int witness() {
        if (state.way.size == 0 || planned(state.way)) {
            return NONE;
        }
        return writer.lastUnwritten();
    }

    public int greedy() {
        writer.hold(state.way);
        return writer.greedyCount(state.net, freshRoutes());
    }

    public int covers(int i) {
        if (i < 0 || i >= state.way.size) {
            return NONE;
        }
        writer.hold(state.way);
        return writer.nodeReach(state.net, freshRoutes(), i);
    }

    // ---- shortest ways ----

    public int far(int u, int v) {
        if (!state.net.hasNode(u) || !state.net.hasNode(v)) {
            return NONE;
        }
        int distance = freshRoutes().distance(u, v);
        return distance < UNREACHED ? distance : NONE;
    }

    public long paths(int u, int v) {
        if (!state.net.hasNode(u) || !state.net.hasNode(v)) {
            return NONE;
        }
        return freshRoutes().countOf(u, v);
    }

    public int next(int u, int v) {
        if (!state.net.hasNode(u) || !state.net.hasNode(v)) {
            return 0;
        }
        return freshRoutes().onSet(state.net, u, v);
    }

    // ---- packets ----

    public int ends(int node) {
        return sent(node) ? packet.outcome() : NONE;
    }

    public int exact(int node) {
        if (!sent(node)) {
            return NONE;
        }
        return packet.isExact ? 1 : 0;
    }

    public int high(int node) {
        return sent(node) ? packet.highest : NONE;
    }

    public int course(int node) {
        if (!sent(node) || !packet.isExact) {
            return NONE;
        }
        if (packet.hops == 0 || packet.hops > WAY_LIMIT) {
            return NONE;
        }
        state.way.copyFrom(packet.trail);
        return state.way.size;
    }

    public long share(int node, int link, int what) {
        if (!state.net.hasLink(link) || what < 0 || what > 1 || !sent(node)) {
            return NONE;
        }
        return packet.shares.get(link, what);
    }

    // ---- demands ----

    public boolean demand(int demand, int node, int volume) {
        if (!isDemand(demand) || !state.net.hasNode(node) || !isAmount(volume)) {
            return false;
        }
        beginAct();
        state.demandNode[demand] = node;
        state.demandVolume[demand] = volume;
        state.demandStack.put(demand, stack);
        return true;
    }

    public long load(int link, int what) {
        if (!state.net.hasLink(link) || what < 0 || what > 1) {
            return NONE;
        }
        layLoads();
        return loads.get(link, what);
    }

    public int heaviest() {
        layLoads();
        int best = NONE;
        for (int l = 0; l < state.net.linkCount; l++) {
            if (loads.isGreater(l, best)) {
                best = l;
            }
        }
        return best;
    }

    // ---- repairs, counts, ranges ----

    public int repair(int link, int node) {
        if (!state.net.hasLink(link) || !state.net.hasNode(node)) {
            return NONE;
        }
        if (!foundRound(link, node) || !planned(round)) {
            return NONE;
        }
        state.way.copyFrom(round);
        writer.stackInto(stack);
        return stack.size;
    }

    public int guards(int what) {
        Row way = state.way;
        if (way.size == 0 || what < 0 || what > 2) {
            return NONE;
        }
        int goal = wayEnd();
        int set = 0;
        int mostLabels = 0;
        int mostCost = 0;
        int costSoFar = 0;
        for (int i = 0; i < way.size; i++) {
            int link = way.get(i);
            if (foundRound(link, goal) && planned(round)) {
                set |= 1 << i;
                mostLabels = Math.max(mostLabels, writer.fewest[0]);
                mostCost = Math.max(mostCost, costSoFar + state.net.costOf(round));
            }
            costSoFar += state.net.priceOf(link);
        }
        return what == 0 ? set : what == 1 ? mostLabels : mostCost;
    }

    public int writable(int a, int b, int k, int d) {
        if (!state.net.hasNode(a) || !state.net.hasNode(b) || a == b) {
            return NONE;
        }
        if (k < 1 || k > WRITABLE_LINKS || d < 1 || d > DEPTH_LIMIT) {
            return NONE;
        }
        return writer.countWays(state.net, freshRoutes(), a, b, k, d, depth);
    }

    public int stays(int link, int what) {
        Network net = state.net;
        if (!net.hasLink(link) || state.way.size == 0 || what < 0 || what > 1) {
            return NONE;
        }
        if (!net.isUp(link)) {
            // No FAR heeds what a DOWN LINK costs, so that all COSTS are as good.
            return what == 0 ? 1 : AMOUNT_LIMIT;
        }
        return lastAlike(link, what == 0 ? -1 : 1);
    }

    // ---- kept ways ----

    public int keep() {
        Row way = state.way;
        if (way.size == 0) {
            return NONE;
        }
        for (int i = 0; i < state.keptCount; i++) {
            if (state.kept.isSame(i, way)) {
                return i;
            }
        }
        if (state.keptCount >= KEPT_LIMIT) {
            return NONE;
        }
        beginAct();
        int number = state.keptCount;
        state.kept.put(number, way);
        state.keptCount++;
        return number;
    }

    public int take(int kept) {
        if (kept < 0 || kept >= state.keptCount) {
            return NONE;
        }
        state.kept.copyTo(kept, state.way);
        return state.way.size;
    }

    // ---- the text ----

    public int feed(int a, int b, int c, int d, int e) {
        if (tape.size + FED_BYTES > TAPE_LIMIT) {
            return NONE;
        }
        tape.append(a);
        tape.append(b);
        tape.append(c);
        tape.append(d);
        tape.append(e);
        return tape.size;
    }

    public boolean end(int n) {
        if (n < 0 || n > tape.size) {
            return false;
        }
        tape.size = n;
        return true;
    }

    public int text() {
        if (!tape.readAll()) {
            return NONE;
        }
        beginAct();
        state.net.copyFrom(tape.told);
        state.forgetRest();
        return state.net.linkCount;
    }

    public int fault(int what) {
        switch (what) {
            case 0:
                return tape.faultKind;
            case 1:
                return tape.faultPlace;
            default:
                return NONE;
        }
    }

    // ---- acts undone, what is, the image ----

    public int undo() {
        if (!acts.restore(state)) {
            return NONE;
        }
        stale = true;
        return acts.count;
    }

    public int at(int i, int what) {
        switch (what) {
            case 0:
                return state.way.get(i);
            case 1:
                return stack.get(i);
            default:
                return NONE;
        }
    }

    public int linkOf(int link, int what) {
        Network net = state.net;
        if (!net.hasLink(link)) {
            return NONE;
        }
        switch (what) {
            case 0:
                return net.from[link];
            case 1:
                return net.to[link];
            case 2:
                return net.cost[link];
            case 3:
                return net.isUp(link) ? 1 : 0;
            default:
                return NONE;
        }
    }

    public int binding(int binding, int what) {
        if (!isBinding(binding) || state.net.holder[binding] == NONE) {
            return NONE;
        }
        if (what == 0) {
            return state.net.holder[binding];
        }
        if (what == 1) {
            return state.net.bound.sizeOf(binding);
        }
        return what < 10 ? NONE : state.net.bound.get(binding, what - 10);
    }

    public int demandOf(int demand, int what) {
        if (!isDemand(demand) || state.demandNode[demand] == NONE) {
            return NONE;
        }
        switch (what) {
            case 0:
                return state.demandNode[demand];
            case 1:
                return state.demandVolume[demand];
            case 2:
                return state.demandStack.sizeOf(demand);
            case 3:
                sendDemand(demand);
                return packet.outcome();
            default:
                return NONE;
        }
    }

    public boolean image(boolean taken) {
        if (taken) {
            imageState.copyFrom(state);
            imageStack.copyFrom(stack);
            imageDepth = depth;
            imageThere = true;
            return true;
        }
        if (!imageThere) {
            return false;
        }
        state.copyFrom(imageState);
        stack.copyFrom(imageStack);
        depth = imageDepth;
        acts.count = 0;
        stale = true;
        return true;
    }

    public int look(int what) {
        switch (what) {
            case 0:
                return state.net.nodeCount;
            case 1:
                return state.net.linkCount;
            case 2:
                return state.net.upSet;
            case 3:
                return depth;
            case 4:
                return state.way.size;
            case 5:
                return stack.size;
            case 6:
                return setOfThere(state.net.holder);
            case 7:
                return setOfThere(state.demandNode);
            case 8:
                return state.keptCount;
            case 9:
                return acts.count;
            case 10:
                return tape.size;
            case 11:
                return state.net.costOf(state.way);
            case 12:
                return wayStart();
            case 13:
                return wayEnd();
            default:
                return NONE;
        }
    }

    // ---- helpers ----

    private static boolean isAmount(int amount) {
        return amount >= 1 && amount <= AMOUNT_LIMIT;
    }

    private static boolean isBinding(int binding) {
        return binding >= 0 && binding < BINDING_LIMIT;
    }

    private static boolean isDemand(int demand) {
        return demand >= 0 && demand < DEMAND_LIMIT;
    }

    private static boolean isLabel(int label) {
        return label >= 0 && label < NODE_LIMIT
            || label >= LINK_LABEL && label < LINK_LABEL + LINK_LIMIT
            || label >= BINDING_LABEL && label < BINDING_LABEL + BINDING_LIMIT;
    }

    private static int setOfThere(int[] places) {
        int set = 0;
        for (int i = 0; i < places.length; i++) {
            if (places[i] != NONE) {
                set |= 1 << i;
            }
        }
        return set;
    }

    private static int[] rowOfNone(int width) {
        int[] row = new int[Math.max(0, width)];
        Arrays.fill(row, NONE);
        return row;
    }

    private static int leastOf(int set) {
        return set == 0 ? NONE : Integer.bitCount((set & -set) - 1);
    }

    private boolean canBeBound() {
        if (stack.size == 0 || stack.size > BOUND_LIMIT) {
            return false;
        }
        for (int i = 0; i < stack.size; i++) {
            if (stack.get(i) >= BINDING_LABEL) {
                return false;
            }
        }
        return true;
    }

    /** Called once an act is sure not to be refused, ahead of its first change. */
    private void beginAct() {
        acts.save(state);
        stale = true;
    }

    private int wayStart() {
        return state.net.fromOf(state.way.get(0));
    }

    private int wayEnd() {
        return state.net.toOf(state.way.get(state.way.size - 1));
    }

    private Routes freshRoutes() {
        if (stale) {
            routes.findAll(state.net, NONE);
            stale = false;
        }
        return routes;
    }

    private boolean planned(Row way) {
        return writer.plan(state.net, freshRoutes(), way, depth);
    }

    private boolean sent(int node) {
        if (!state.net.hasNode(node)) {
            return false;
        }
        packet.stack.copyFrom(stack);
        packet.run(state.net, freshRoutes(), node);
        return true;
    }

    private void sendDemand(int demand) {
        state.demandStack.copyTo(demand, packet.stack);
        packet.run(state.net, freshRoutes(), state.demandNode[demand]);
    }

    private void layLoads() {
        loads.clear();
        for (int d = 0; d < DEMAND_LIMIT; d++) {
            if (state.demandNode[d] == NONE) {
                continue;
            }
            sendDemand(d);
            if (!packet.isDropped()) {
                loads.addAll(packet.shares, state.demandVolume[d]);
            }
        }
    }

    /** Puts the REPAIR's WAY into 'round'; the least LINK each time makes it the first as a row. */
    private boolean foundRound(int link, int goal) {
        Network net = state.net;
        int node = net.fromOf(link);
        round.size = 0;
        without.findToward(net, goal, link);
        if (node == goal || without.distance(node, goal) >= UNREACHED) {
            return false;
        }
        for (int hop = 0; hop < NODE_LIMIT && node != goal; hop++) {
            // The LINK itself may cost as little as the way round it.
            int first = leastOf(without.onSet(net, node, goal) & ~(1 << link));
            if (first == NONE) {
                return false;
            }
            round.add(first);
            node = net.toOf(first);
        }
        return node == goal;
    }

    /** The last COST of an UP LINK, step by step from its own, by which THE WAY takes as many LABELS. */
    private int lastAlike(int link, int step) {
        Network net = state.net;
        int own = net.cost[link];
        without.findAll(net, link);
        int now = fewestAt(link, own);
        int last = own;
        for (int away = 1; away < AMOUNT_LIMIT; away++) {
            int cost = own + step * away;
            if (!isAmount(cost) || fewestAt(link, cost) != now) {
                break;
            }
            last = cost;
        }
        net.cost[link] = own;
        return last;
    }

    private int fewestAt(int link, int cost) {
        state.net.cost[link] = cost;
        trial.join(without, state.net, link);
        writer.plan(state.net, trial, state.way, depth);
        return writer.fewest[0];
    }

    // ---- the classes inside ----

    /** A row of numbers, up to a width. */
    private static final class Row {
        final int[] items;
        int size;

        Row(int width) {
            items = new int[Math.max(0, width)];
        }

        boolean isFull() {
            return size >= items.length;
        }

        void add(int item) {
            if (size < items.length) {
                items[size] = item;
                size++;
            }
        }

        int get(int i) {
            return i >= 0 && i < size ? items[i] : NONE;
        }

        void dropFirst(int n) {
            int left = size - n;
            if (n < 0 || left < 0) {
                return;
            }
            System.arraycopy(items, n, items, 0, left);
            size = left;
        }

        void copyFrom(Row other) {
            size = Math.min(other.size, items.length);
            System.arraycopy(other.items, 0, items, 0, size);
        }
    }

    /** A fixed number of rows of one width, in one array so that a copy is cheap. */
    private static final class Rows {
        final int width;
        final int[] sizes;
        final int[] items;

        Rows(int count, int width) {
            this.width = Math.max(0, width);
            sizes = new int[Math.max(0, count)];
            items = new int[Math.max(0, count * width)];
        }

        int sizeOf(int row) {
            return row >= 0 && row < sizes.length ? sizes[row] : 0;
        }

        int get(int row, int i) {
            return i >= 0 && i < sizeOf(row) ? items[row * width + i] : NONE;
        }

        void empty(int row) {
            if (row >= 0 && row < sizes.length) {
                sizes[row] = 0;
            }
        }

        void add(int row, int item) {
            if (row >= 0 && row < sizes.length && sizes[row] < width) {
                items[row * width + sizes[row]] = item;
                sizes[row]++;
            }
        }

        void put(int row, Row from) {
            empty(row);
            for (int i = 0; i < from.size; i++) {
                add(row, from.get(i));
            }
        }

        void copyTo(int row, Row target) {
            target.size = 0;
            for (int i = 0; i < sizeOf(row); i++) {
                target.add(get(row, i));
            }
        }

        boolean isSame(int row, Row other) {
            if (sizeOf(row) != other.size) {
                return false;
            }
            for (int i = 0; i < other.size; i++) {
                if (get(row, i) != other.get(i)) {
                    return false;
                }
            }
            return true;
        }

        void emptyAll() {
            Arrays.fill(sizes, 0);
        }

        void copyFrom(Rows other) {
            System.arraycopy(other.sizes, 0, sizes, 0, Math.min(sizes.length, other.sizes.length));
            System.arraycopy(other.items, 0, items, 0, Math.min(items.length, other.items.length));
        }
    }

    /** NODES, LINKS and BINDINGS. */
    private static final class Network {
        int nodeCount;
        int linkCount;
        int upSet;
        final int[] from;
        final int[] to;
        final int[] cost;
        final int[] holder;
        final Rows bound;

        Network() {
            nodeCount = LEAST_NODES;
            from = new int[LINK_LIMIT];
            to = new int[LINK_LIMIT];
            cost = new int[LINK_LIMIT];
            holder = rowOfNone(BINDING_LIMIT);
            bound = new Rows(BINDING_LIMIT, BOUND_LIMIT);
        }

        boolean hasNode(int v) {
            return v >= 0 && v < nodeCount;
        }

        boolean hasLink(int l) {
            return l >= 0 && l < linkCount;
        }

        boolean isUp(int l) {
            return l >= 0 && l < linkCount && (upSet >>> l & 1) != 0;
        }

        void setUp(int l, boolean up) {
            upSet = up ? upSet | 1 << l : upSet & ~(1 << l);
        }

        int fromOf(int l) {
            return l >= 0 && l < linkCount ? from[l] : NONE;
        }

        int toOf(int l) {
            return l >= 0 && l < linkCount ? to[l] : NONE;
        }

        int priceOf(int l) {
            return l >= 0 && l < linkCount ? cost[l] : 0;
        }

        int costOf(Row way) {
            int sum = 0;
            for (int i = 0; i < way.size; i++) {
                sum += priceOf(way.get(i));
            }
            return sum;
        }

        int addLink(int u, int v, int price, boolean up) {
            if (linkCount >= LINK_LIMIT || !hasNode(u) || !hasNode(v)) {
                return NONE;
            }
            int l = linkCount;
            from[l] = u;
            to[l] = v;
            cost[l] = price;
            linkCount++;
            setUp(l, up);
            return l;
        }

        void reset(int n) {
            nodeCount = n;
            linkCount = 0;
            upSet = 0;
            Arrays.fill(holder, NONE);
            bound.emptyAll();
        }

        void copyFrom(Network other) {
            nodeCount = other.nodeCount;
            linkCount = other.linkCount;
            upSet = other.upSet;
            System.arraycopy(other.from, 0, from, 0, LINK_LIMIT);
            System.arraycopy(other.to, 0, to, 0, LINK_LIMIT);
            System.arraycopy(other.cost, 0, cost, 0, LINK_LIMIT);
            System.arraycopy(other.holder, 0, holder, 0, BINDING_LIMIT);
            bound.copyFrom(other.bound);
        }
    }

    /** All that an ACT undone brings back. */
    private static final class State {
        final Network net;
        final int[] demandNode;
        final int[] demandVolume;
        final Rows demandStack;
        int keptCount;
        final Rows kept;
        final Row way;

        State() {
            net = new Network();
            demandNode = rowOfNone(DEMAND_LIMIT);
            demandVolume = new int[DEMAND_LIMIT];
            demandStack = new Rows(DEMAND_LIMIT, STACK_LIMIT);
            kept = new Rows(KEPT_LIMIT, WAY_LIMIT);
            way = new Row(WAY_LIMIT);
        }

        /** A new network leaves none of what was told of the one ahead. */
        void forgetRest() {
            Arrays.fill(demandNode, NONE);
            demandStack.emptyAll();
            keptCount = 0;
            kept.emptyAll();
            way.size = 0;
        }

        void copyFrom(State other) {
            net.copyFrom(other.net);
            System.arraycopy(other.demandNode, 0, demandNode, 0, DEMAND_LIMIT);
            System.arraycopy(other.demandVolume, 0, demandVolume, 0, DEMAND_LIMIT);
            demandStack.copyFrom(other.demandStack);
            keptCount = other.keptCount;
            kept.copyFrom(other.kept);
            way.copyFrom(other.way);
        }
    }

    /** What was ahead of each of the latest ACTS, the latest last. */
    private static final class Acts {
        final State[] saved;
        int count;

        Acts() {
            saved = new State[ACT_LIMIT];
            for (int i = 0; i < ACT_LIMIT; i++) {
                saved[i] = new State();
            }
        }

        void save(State now) {
            if (count >= ACT_LIMIT) {
                State oldest = saved[0];
                for (int i = 1; i < ACT_LIMIT; i++) {
                    saved[i - 1] = saved[i];
                }
                saved[ACT_LIMIT - 1] = oldest;
                count = ACT_LIMIT - 1;
            }
            saved[count].copyFrom(now);
            count++;
        }

        boolean restore(State into) {
            if (count <= 0) {
                return false;
            }
            count--;
            into.copyFrom(saved[count]);
            return true;
        }
    }

    /** FAR and PATHS of all pairs of NODES; those to one NODE stand together. */
    private static final class Routes {
        final int[] distances;
        final long[] counts;

        Routes() {
            distances = new int[NODE_LIMIT * NODE_LIMIT];
            counts = new long[NODE_LIMIT * NODE_LIMIT];
        }

        int distance(int u, int v) {
            boolean there = u >= 0 && u < NODE_LIMIT && v >= 0 && v < NODE_LIMIT;
            return there ? distances[v * NODE_LIMIT + u] : UNREACHED;
        }

        long countOf(int u, int v) {
            boolean there = u >= 0 && u < NODE_LIMIT && v >= 0 && v < NODE_LIMIT;
            return there ? counts[v * NODE_LIMIT + u] : 0;
        }

        int onSet(Network net, int u, int v) {
            int far = distance(u, v);
            int set = 0;
            for (int l = 0; l < net.linkCount && far < UNREACHED; l++) {
                boolean leaves = net.from[l] == u && (net.upSet >>> l & 1) != 0;
                if (leaves && net.cost[l] + distance(net.to[l], v) == far) {
                    set |= 1 << l;
                }
            }
            return set;
        }

        /** All pairs, as if one LINK were DOWN (NONE: none). */
        void findAll(Network net, int barred) {
            for (int v = 0; v < net.nodeCount; v++) {
                findToward(net, v, barred);
            }
        }

        /** The nearest NODE each time: COSTS are above 0, so what is known of it is final. */
        void findToward(Network net, int v, int barred) {
            if (!net.hasNode(v)) {
                return;
            }
            int row = v * NODE_LIMIT;
            for (int u = 0; u < NODE_LIMIT; u++) {
                distances[row + u] = UNREACHED;
                counts[row + u] = 0;
            }
            distances[row + v] = 0;
            counts[row + v] = 1;
            int open = (1 << net.nodeCount) - 1;
            for (int turn = 0; turn < net.nodeCount; turn++) {
                int w = nearest(row, open);
                if (w == NONE) {
                    return;
                }
                open &= ~(1 << w);
                comeInto(net, row, w, barred);
            }
        }

        private int nearest(int row, int open) {
            int best = NONE;
            int least = UNREACHED;
            for (int u = 0; u < NODE_LIMIT; u++) {
                if ((open >>> u & 1) != 0 && distances[row + u] < least) {
                    best = u;
                    least = distances[row + u];
                }
            }
            return best;
        }

        private void comeInto(Network net, int row, int w, int barred) {
            for (int l = 0; l < net.linkCount; l++) {
                if (net.to[l] != w || l == barred || (net.upSet >>> l & 1) == 0) {
                    continue;
                }
                int place = row + net.from[l];
                int far = net.cost[l] + distances[row + w];
                if (far < distances[place]) {
                    distances[place] = far;
                    counts[place] = counts[row + w];
                } else if (far == distances[place]) {
                    counts[place] += counts[row + w];
                }
            }
        }

        /**
         * All pairs with an UP LINK more than 'base' knows. No shortest row goes along it twice, so
         * that each is one of 'base', or two of 'base' with the LINK between them.
         */
        void join(Routes base, Network net, int l) {
            int x = net.from[l];
            int y = net.to[l];
            for (int v = 0; v < net.nodeCount; v++) {
                for (int u = 0; u < net.nodeCount; u++) {
                    int place = v * NODE_LIMIT + u;
                    int far = base.distances[place];
                    long count = base.counts[place];
                    int over = base.distance(u, x) + net.cost[l] + base.distance(y, v);
                    if (over < far) {
                        far = over;
                        count = 0;
                    }
                    if (over == far) {
                        count += base.countOf(u, x) * base.countOf(y, v);
                    }
                    distances[place] = far;
                    counts[place] = count;
                }
            }
        }
    }

    /** Writes a row of LINKS in the FEWEST LABELS, from its last place to its first. */
    private static final class Writer {
        final int[] links;
        int end;
        int depth;
        final int[] fewest;
        final int[] firstLabel;
        final int[] reach;
        int goal;
        int lowest;
        int labelLimit;

        Writer() {
            links = new int[WAY_LIMIT];
            fewest = new int[WAY_LIMIT + 1];
            firstLabel = new int[WAY_LIMIT + 1];
            reach = new int[WAY_LIMIT + 1];
        }

        void hold(Row way) {
            end = Math.min(way.size, WAY_LIMIT);
            System.arraycopy(way.items, 0, links, 0, end);
            fewest[end] = 0;
        }

        /** Whether it can be WRITTEN; then fewest[0] says in how many LABELS. */
        boolean plan(Network net, Routes routes, Row way, int mostDepth) {
            hold(way);
            depth = mostDepth;
            for (int i = end - 1; i >= 0; i--) {
                writeFrom(net, routes, i);
            }
            return fewest[0] < UNWRITTEN;
        }

        /** One place; all places behind it must be known. */
        private void writeFrom(Network net, Routes routes, int i) {
            fewest[i] = UNWRITTEN;
            firstLabel[i] = NONE;
            reach[i] = 0;
            int most = nodeReach(net, routes, i);
            for (int covered = 1; covered <= most; covered++) {
                offer(i, covered, net.toOf(links[i + covered - 1]), 1);
            }
            if (net.isUp(links[i])) {
                offer(i, 1, LINK_LABEL + links[i], 1);
            }
            int node = net.fromOf(links[i]);
            for (int b = 0; b < BINDING_LIMIT; b++) {
                if (net.holder[b] == node) {
                    offer(i, bindingReach(net, routes, b, i), BINDING_LABEL + b, net.bound.sizes[b]);
                }
            }
        }

        /**
         * Takes a LABEL for a place if it is better. With the FEWEST behind it the STACK is lowest
         * where the LABEL is first, so that no other rest could fit DEPTH if this one doesn't.
         */
        private void offer(int i, int covered, int label, int height) {
            if (covered < 1 || i + covered > end || fewest[i + covered] + height > depth) {
                return;
            }
            int total = fewest[i + covered] + 1;
            if (total > fewest[i]) {
                return;
            }
            if (total == fewest[i]) {
                if (covered < reach[i] || covered == reach[i] && label > firstLabel[i]) {
                    return;
                }
            }
            fewest[i] = total;
            firstLabel[i] = label;
            reach[i] = covered;
        }

        /**
         * How many LINKS from a place the best LABEL of a NODE covers. What begins a SOLE shortest
         * way is one too, so that all lower numbers can be covered and the first failure ends it.
         */
        int nodeReach(Network net, Routes routes, int i) {
            int u = net.fromOf(links[i]);
            int sum = 0;
            for (int p = i; p < end; p++) {
                int l = links[p];
                int v = net.toOf(l);
                sum += net.priceOf(l);
                if (!net.isUp(l) || routes.distance(u, v) != sum || routes.countOf(u, v) != 1) {
                    return p - i;
                }
            }
            return end - i;
        }

        /** How many LINKS from a place a BINDING's own COURSE covers; 0 if it goes another way. */
        private int bindingReach(Network net, Routes routes, int b, int i) {
            int p = i;
            for (int j = 0; j < net.bound.sizes[b]; j++) {
                p = follow(net, routes, net.bound.get(b, j), p);
                if (p == NONE) {
                    return 0;
                }
            }
            return p - i;
        }

        /** The place to which one LABEL brings the packet along the row; NONE if it leaves it. */
        private int follow(Network net, Routes routes, int label, int p) {
            if (label >= LINK_LABEL) {
                int l = label - LINK_LABEL;
                return p < end && links[p] == l && net.isUp(l) ? p + 1 : NONE;
            }
            if (!net.hasNode(label)) {
                return NONE;
            }
            int u = p < end ? net.fromOf(links[p]) : net.toOf(links[end - 1]);
            if (u == label) {
                return p;
            }
            if (routes.countOf(u, label) != 1) {
                return NONE;
            }
            int sum = 0;
            for (int q = p; q < end && net.isUp(links[q]); q++) {
                sum += net.priceOf(links[q]);
                if (net.toOf(links[q]) == label) {
                    // As PATHS are 1, a row that costs no more than FAR is the one that it goes.
                    return sum == routes.distance(u, label) ? q + 1 : NONE;
                }
            }
            return NONE;
        }

        void stackInto(Row stack) {
            stack.size = 0;
            for (int i = 0; i < end; i += Math.max(1, reach[i])) {
                stack.add(firstLabel[i]);
            }
        }

        int lastUnwritten() {
            for (int i = end - 1; i >= 0; i--) {
                if (fewest[i] >= UNWRITTEN) {
                    return i;
                }
            }
            return NONE;
        }

        int greedyCount(Network net, Routes routes) {
            int count = 0;
            int place = 0;
            for (int turn = 0; turn < WAY_LIMIT && place < end; turn++) {
                int covered = nodeReach(net, routes, place);
                if (covered == 0 && !net.isUp(links[place])) {
                    return NONE;
                }
                place += Math.max(1, covered);
                count++;
            }
            return count;
        }

        /** WAYS from a to b of so many LINKS at most that take so many LABELS at most. */
        int countWays(Network net, Routes routes, int a, int b, int mostLinks, int mostLabels, int mostDepth) {
            end = WRITABLE_LINKS;
            fewest[end] = 0;
            depth = mostDepth;
            goal = a;
            lowest = end - mostLinks;
            labelLimit = mostLabels;
            return countBack(net, routes, b, end, 1 << b);
        }

        /**
         * Counts them from their end back, since what the rest takes is shared by all that end so.
         * 'place' is where the rest begins, and is the guard on the depth.
         */
        private int countBack(Network net, Routes routes, int node, int place, int seen) {
            if (place <= lowest || place <= 0 || place > end) {
                return 0;
            }
            int found = 0;
            int i = place - 1;
            for (int l = 0; l < net.linkCount; l++) {
                int u = net.from[l];
                if (net.to[l] != node || !net.isUp(l) || (seen >>> u & 1) != 0) {
                    continue;
                }
                if (u != goal && i <= lowest) {
                    continue;
                }
                links[i] = l;
                writeFrom(net, routes, i);
                if (u != goal) {
                    found += countBack(net, routes, u, i, seen | 1 << u);
                } else if (fewest[i] <= labelLimit) {
                    found++;
                }
            }
            return found;
        }
    }

    /** A row of fractions, each in lowest terms. */
    private static final class Fractions {
        final long[] above;
        final long[] below;

        Fractions(int width) {
            above = new long[Math.max(0, width)];
            below = new long[Math.max(0, width)];
            for (int i = 0; i < below.length; i++) {
                below[i] = 1L;
            }
        }

        void clear() {
            Arrays.fill(above, 0L);
            Arrays.fill(below, 1L);
        }

        long get(int i, int what) {
            if (i < 0 || i >= above.length) {
                return NONE;
            }
            return what == 0 ? above[i] : below[i];
        }

        /**
         * By the least common term below: it divides the product, over the NODES, of 1 .. as many
         * LINKS as leave it together, which 30 LINKS keep so low that no sum here leaves a long.
         */
        void add(int i, long a, long b) {
            if (i < 0 || i >= above.length || a <= 0 || b <= 0) {
                return;
            }
            long common = divisor(below[i], b);
            long sum = above[i] * (b / common) + a * (below[i] / common);
            long under = below[i] / common * b;
            long lower = divisor(sum, under);
            above[i] = sum / lower;
            below[i] = under / lower;
        }

        void addOne(int i) {
            if (i >= 0 && i < above.length) {
                above[i] += below[i];
            }
        }

        void addAll(Fractions other, int times) {
            for (int i = 0; i < above.length && i < other.above.length; i++) {
                add(i, other.above[i] * times, other.below[i]);
            }
        }

        /** A place that is none, as the best one is at first, counts as 0. */
        boolean isGreater(int i, int j) {
            if (i < 0 || i >= above.length) {
                return false;
            }
            if (j < 0 || j >= above.length) {
                return above[i] > 0;
            }
            long common = divisor(below[i], below[j]);
            return above[i] * (below[j] / common) > above[j] * (below[i] / common);
        }

        /** The greatest common divisor; never below 1, so that one may divide by it. */
        private static long divisor(long a, long b) {
            long x = a;
            long y = b;
            for (int turn = 0; turn < 200 && y != 0; turn++) {
                long rest = x % y;
                x = y;
                y = rest;
            }
            return x < 1 ? 1 : x;
        }
    }

    /** A packet on its course by a stack. */
    private static final class Packet {
        final Row stack;
        final Row trail;
        final Fractions shares;
        final int[] left;
        int leftCount;
        final long[] parts;
        final long[] flows;
        int node;
        int hops;
        int highest;
        int droppedAt;
        boolean isExact;

        Packet() {
            stack = new Row(STACK_LIMIT);
            trail = new Row(WAY_LIMIT);
            shares = new Fractions(LINK_LIMIT);
            left = new int[STACK_LIMIT + BOUND_LIMIT];
            parts = new long[NODE_LIMIT];
            flows = new long[LINK_LIMIT];
            droppedAt = NONE;
        }

        boolean isDropped() {
            return droppedAt != NONE;
        }

        int outcome() {
            return droppedAt == NONE ? node : NONE - 1 - droppedAt;
        }

        void run(Network net, Routes routes, int start) {
            begin(start);
            for (int come = 0; come < LABELS_EVER && leftCount > 0; come++) {
                leftCount--;
                int label = left[leftCount];
                boolean goes = label >= BINDING_LABEL ? unfolds(net, label - BINDING_LABEL)
                    : label >= LINK_LABEL ? goesAlong(net, label - LINK_LABEL)
                    : goesTo(net, routes, label);
                if (!goes) {
                    droppedAt = come;
                    isExact = false;
                    return;
                }
                highest = Math.max(highest, leftCount);
            }
        }

        /** The first LABEL lies last in 'left', so that those of a BINDING are put ahead at its end. */
        private void begin(int start) {
            node = start;
            hops = 0;
            highest = stack.size;
            droppedAt = NONE;
            isExact = true;
            trail.size = 0;
            shares.clear();
            leftCount = 0;
            for (int i = stack.size - 1; i >= 0; i--) {
                left[leftCount] = stack.items[i];
                leftCount++;
            }
        }

        private boolean unfolds(Network net, int b) {
            if (b < 0 || b >= BINDING_LIMIT || net.holder[b] != node) {
                return false;
            }
            for (int j = net.bound.sizes[b] - 1; j >= 0 && leftCount < left.length; j--) {
                left[leftCount] = net.bound.get(b, j);
                leftCount++;
            }
            return true;
        }

        private boolean goesAlong(Network net, int l) {
            if (!net.isUp(l) || net.from[l] != node) {
                return false;
            }
            pass(net, l);
            return true;
        }

        private boolean goesTo(Network net, Routes routes, int v) {
            if (!net.hasNode(v) || routes.distance(node, v) >= UNREACHED) {
                return false;
            }
            if (routes.countOf(node, v) == 1) {
                walk(net, routes, v);
            } else {
                isExact = false;
                spread(net, routes, v);
            }
            return true;
        }

        private void pass(Network net, int l) {
            shares.addOne(l);
            trail.add(l);
            hops++;
            node = net.to[l];
        }

        private void walk(Network net, Routes routes, int v) {
            for (int hop = 0; hop < NODE_LIMIT && node != v; hop++) {
                int only = leastOf(routes.onSet(net, node, v));
                if (only == NONE) {
                    return;
                }
                pass(net, only);
            }
        }

        /**
         * The packet as so many whole pieces that they can always be parted: at most as many times at
         * each NODE as LINKS go on from it. From the farthest NODE on, so that a NODE has all of its
         * part when it hands it on.
         */
        private void spread(Network net, Routes routes, int v) {
            Arrays.fill(parts, 0L);
            Arrays.fill(flows, 0L);
            long pieces = 1;
            for (int u = 0; u < net.nodeCount; u++) {
                pieces *= Math.max(1, Integer.bitCount(routes.onSet(net, u, v)));
            }
            parts[node] = pieces;
            int open = (1 << net.nodeCount) - 1 & ~(1 << v);
            for (int turn = 0; turn < net.nodeCount; turn++) {
                int u = farthest(routes, v, open);
                if (u == NONE) {
                    break;
                }
                open &= ~(1 << u);
                handOn(net, u, routes.onSet(net, u, v));
            }
            for (int l = 0; l < net.linkCount; l++) {
                shares.add(l, flows[l], pieces);
            }
            node = v;
        }

        private int farthest(Routes routes, int v, int open) {
            int best = NONE;
            int most = 0;
            for (int u = 0; u < NODE_LIMIT; u++) {
                if ((open >>> u & 1) == 0 || parts[u] == 0) {
                    continue;
                }
                if (routes.distance(u, v) > most) {
                    best = u;
                    most = routes.distance(u, v);
                }
            }
            return best;
        }

        private void handOn(Network net, int u, int set) {
            long each = parts[u] / Math.max(1, Integer.bitCount(set));
            for (int l = 0; l < net.linkCount; l++) {
                if ((set >>> l & 1) != 0) {
                    flows[l] += each;
                    parts[net.to[l]] += each;
                }
            }
        }
    }

    /** THE TAPE, and how it is read as a TEXT. */
    private static final class Tape {
        final byte[] bytes;
        int size;
        int place;
        int faultKind;
        int faultPlace;
        final Network told;

        Tape() {
            bytes = new byte[TAPE_LIMIT];
            faultPlace = NONE;
            told = new Network();
        }

        void append(int four) {
            for (int shift = 24; shift >= 0 && size < TAPE_LIMIT; shift -= 8) {
                bytes[size] = (byte) (four >>> shift);
                size++;
            }
        }

        /** Puts the TEXT into 'told' and empties THE TAPE; false if there is a FAULT. */
        boolean readAll() {
            place = 0;
            faultKind = 0;
            faultPlace = NONE;
            boolean going = readHead();
            for (int turn = 0; turn < TAPE_LIMIT && going; turn++) {
                skipBlanks();
                if (place >= size) {
                    break;
                }
                going = readRow();
            }
            size = 0;
            return faultKind == 0;
        }

        private boolean readHead() {
            skipBlanks();
            if (!takeWord("nodes")) {
                return false;
            }
            skipBlanks();
            int n = takeNumber(LEAST_NODES, NODE_LIMIT);
            if (n == NONE) {
                return false;
            }
            told.reset(n);
            return takeSign(';');
        }

        private boolean readRow() {
            if (isWord("link")) {
                return readLink();
            }
            if (isWord("bind")) {
                return readBinding();
            }
            return foundFault(CANT_STAND, place);
        }

        private boolean readLink() {
            if (told.linkCount >= LINK_LIMIT) {
                return foundFault(ONE_TOO_MANY, place);
            }
            takeWord("link");
            skipBlanks();
            int u = takeNumber(0, told.nodeCount - 1);
            if (u == NONE) {
                return false;
            }
            skipBlanks();
            int start = place;
            int v = takeNumber(0, told.nodeCount - 1);
            if (v == NONE) {
                return false;
            }
            if (v == u) {
                return foundFault(CANT_BE_NUMBER, start);
            }
            skipBlanks();
            int cost = takeNumber(1, AMOUNT_LIMIT);
            if (cost == NONE) {
                return false;
            }
            skipBlanks();
            boolean down = isWord("down");
            if (down) {
                takeWord("down");
            }
            told.addLink(u, v, cost, !down);
            return takeSign(';');
        }

        private boolean readBinding() {
            takeWord("bind");
            skipBlanks();
            int start = place;
            int b = takeNumber(0, BINDING_LIMIT - 1);
            if (b == NONE) {
                return false;
            }
            if (told.holder[b] != NONE) {
                return foundFault(ONE_TOO_MANY, start);
            }
            skipBlanks();
            if (!takeWord("at")) {
                return false;
            }
            skipBlanks();
            int node = takeNumber(0, told.nodeCount - 1);
            if (node == NONE) {
                return false;
            }
            told.holder[b] = node;
            return takeSign(':') && readLabels(b);
        }

        /** One LABEL at least, and all up to the sign that ends them. */
        private boolean readLabels(int b) {
            for (int count = 0; count <= BOUND_LIMIT; count++) {
                skipBlanks();
                if (count > 0 && byteAt(place) == ';') {
                    break;
                }
                if (!readOneLabel(b, count)) {
                    return false;
                }
            }
            return takeSign(';');
        }

        private boolean readOneLabel(int b, int count) {
            boolean ofNode = isWord("n");
            if (!ofNode && !isWord("l")) {
                return foundFault(CANT_STAND, place);
            }
            if (count >= BOUND_LIMIT) {
                return foundFault(SEVENTH_LABEL, place);
            }
            place++;
            int number = takeNumber(0, ofNode ? NODE_LIMIT - 1 : LINK_LIMIT - 1);
            if (number == NONE) {
                return false;
            }
            told.bound.add(b, ofNode ? number : LINK_LABEL + number);
            return true;
        }

        private boolean foundFault(int kind, int where) {
            faultKind = kind;
            faultPlace = where;
            return false;
        }

        private int byteAt(int i) {
            return i >= 0 && i < size ? bytes[i] & 0xFF : NONE;
        }

        private void skipBlanks() {
            for (int turn = 0; turn < TAPE_LIMIT && byteAt(place) == ' '; turn++) {
                place++;
            }
        }

        private boolean isLetterAt(int i) {
            return i >= 0 && i < size && bytes[i] >= 'a' && bytes[i] <= 'z';
        }

        private boolean isDigitAt(int i) {
            return i >= 0 && i < size && bytes[i] >= '0' && bytes[i] <= '9';
        }

        private boolean isWord(String word) {
            for (int i = 0; i < word.length(); i++) {
                if (byteAt(place + i) != word.charAt(i)) {
                    return false;
                }
            }
            return !isLetterAt(place + word.length());
        }

        private boolean takeWord(String word) {
            if (!isWord(word)) {
                return foundFault(CANT_STAND, place);
            }
            place += word.length();
            return true;
        }

        private boolean takeSign(char sign) {
            skipBlanks();
            if (byteAt(place) != sign) {
                return foundFault(CANT_STAND, place);
            }
            place++;
            return true;
        }

        /** NONE, with the FAULT told, if no number stands right here or it can't be. */
        private int takeNumber(int least, int most) {
            int start = place;
            int number = 0;
            for (int turn = 0; turn < TAPE_LIMIT && isDigitAt(place); turn++) {
                // Kept low, since any count of digits may stand here.
                number = Math.min(AMOUNT_LIMIT + 1, number * 10 + byteAt(place) - '0');
                place++;
            }
            if (place == start) {
                foundFault(CANT_STAND, place);
                return NONE;
            }
            if (number < least || number > most) {
                foundFault(CANT_BE_NUMBER, start);
                return NONE;
            }
            return number;
        }
    }
}
