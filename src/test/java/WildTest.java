import com.sun.management.ThreadMXBean;
import java.lang.management.ManagementFactory;
import java.lang.reflect.Method;
import java.lang.reflect.Modifier;
import java.util.ArrayList;
import java.util.Comparator;
import java.util.List;
import java.util.Random;

/**
 * Any call with any arguments in any state: none may throw, and none may make objects, since all
 * calls of a run live in one room.
 */
public final class WildTest {
    private static final int RUNS = 300;
    private static final int[] EDGES = {Integer.MIN_VALUE, Integer.MAX_VALUE, -1, 0, 1, 2, 9, 10, 11, 12, 13, 15, 16, 29,
        30, 31, 32, 99, 100, 129, 130, 199, 200, 205, 206, 500, 501};

    public static void main(String[] args) throws Exception {
        List<Method> calls = new ArrayList<>();
        for (Method m : LabelStacks.class.getDeclaredMethods()) {
            if (Modifier.isPublic(m.getModifiers())) {
                calls.add(m);
            }
        }
        calls.sort(Comparator.comparing(Method::getName));
        int wrong = calls.size() == 44 - 1 ? 0 : 1;
        if (wrong != 0) {
            System.out.println("WildTest: " + calls.size() + " public methods");
        }
        for (int seed = 0; seed < RUNS; seed++) {
            wrong += wildRun(calls, new Random(seed), seed);
        }
        wrong += roomTaken();
        wrong += dearCalls();
        System.out.println("WildTest: " + RUNS + " runs, " + wrong + " faults");
        if (wrong != 0) {
            System.exit(1);
        }
    }

    private static int wildRun(List<Method> calls, Random random, int seed) {
        LabelStacks x = prepared(random);
        for (int i = 0; i < 480; i++) {
            Method m = calls.get(random.nextInt(calls.size()));
            if (m.getName().equals("nodes") && random.nextInt(8) != 0) {
                continue;
            }
            Object[] given = new Object[m.getParameterCount()];
            for (int k = 0; k < given.length; k++) {
                given[k] = m.getParameterTypes()[k] == boolean.class ? (Object) random.nextBoolean() : (Object) aNumber(random);
            }
            try {
                m.invoke(x, given);
            } catch (ReflectiveOperationException thrown) {
                System.out.println("WildTest: seed " + seed + ", " + m.getName() + " threw " + thrown.getCause());
                return 1;
            }
        }
        return 0;
    }

    private static int aNumber(Random random) {
        switch (random.nextInt(6)) {
            case 0:
                return EDGES[random.nextInt(EDGES.length)];
            case 1:
                return random.nextInt();
            default:
                return random.nextInt(12);
        }
    }

    private static LabelStacks prepared(Random random) {
        LabelStacks x = new LabelStacks();
        int n = 2 + random.nextInt(9);
        x.nodes(n);
        for (int i = random.nextInt(32); i > 0; i--) {
            x.link(random.nextInt(n), random.nextInt(n), 1 + random.nextInt(3));
        }
        return x;
    }

    private static long bytesMade() {
        return ((ThreadMXBean) ManagementFactory.getThreadMXBean()).getThreadAllocatedBytes(Thread.currentThread().getId());
    }

    /** A new object is small, and 500 of the dearest calls together make next to nothing. */
    private static int roomTaken() {
        int wrong = 0;
        workOn(chained());
        bytesMade();
        long start = bytesMade();
        LabelStacks x = new LabelStacks();
        long made = bytesMade() - start;
        if (made > 64 * 1024) {
            System.out.println("WildTest: a new object takes " + made + " bytes");
            wrong++;
        }
        x = chained();
        start = bytesMade();
        for (int i = 0; i < 20; i++) {
            workOn(x);
        }
        made = bytesMade() - start;
        if (made > 2048) {
            System.out.println("WildTest: the calls take " + made + " bytes");
            wrong++;
        }
        return wrong;
    }

    /** Ten nodes in a row, three links each: 3 ^ 9 rows of links alike. */
    private static LabelStacks chained() {
        LabelStacks x = new LabelStacks();
        x.nodes(10);
        for (int i = 0; i < 27; i++) {
            x.link(i / 3, i / 3 + 1, 1 + i % 2);
        }
        x.link(9, 0, 99);
        return x;
    }

    private static void workOn(LabelStacks x) {
        x.label(9);
        x.label(0);
        x.demand(x.look(5) % 8, 0, 9);
        x.heaviest();
        x.load(3, 0);
        x.share(0, 3, 1);
        x.course(0);
        x.repair(0, 9);
        x.guards(2);
        x.stays(1, 1);
        x.writable(0, 6, 6, 6);
        x.write();
        x.witness();
        x.greedy();
        x.keep();
        x.cost(1, 5);
        x.undo();
        x.image(true);
        x.image(false);
        x.feed(0x6E6F6465, 0x7320333B, 0x20202020, 0x20202020, 0x20202020);
        x.end(8);
        x.look(11);
        x.pop(x.look(5));
    }

    /** 500 of the dearest calls end soon. */
    private static int dearCalls() {
        LabelStacks x = new LabelStacks();
        x.nodes(7);
        for (int i = 0; i < 30; i++) {
            x.link(i / 5, i / 5 + 1, 7);
        }
        x.depth(12);
        long sum = 0;
        for (int i = 0; i < 400; i++) {
            sum += x.writable(0, 6, 6, 12);
        }
        for (int i = 0; i < 6; i++) {
            x.on(5 * i);
        }
        for (int i = 0; i < 60; i++) {
            sum += x.stays(i % 30, i % 2);
        }
        return sum > 400L * 15625 ? 0 : 1;
    }
}
