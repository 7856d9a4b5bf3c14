import com.sun.management.ThreadMXBean;
import java.lang.management.ManagementFactory;
import java.util.Random;

/**
 * What a run makes stays in one room: a new object is small, its rows are made once, and no call makes
 * anything after that. And no call throws, whatever its arguments are.
 */
public final class RoomTest {
    private static final Due DUE = new Due("RoomTest");
    private static final int[] EDGES = {Integer.MIN_VALUE, -65, -7, -2, -1, 0, 1, 2, 3, 4, 5, 7, 8, 9, 31, 32, 35, 36, 63, 64,
        80, 4096, Integer.MAX_VALUE};
    private static final ThreadMXBean BEAN = (ThreadMXBean) ManagementFactory.getThreadMXBean();

    private RoomTest() {
    }

    public static void main(String[] args) {
        long[] filler = new long[1];
        for (int round = 0; round < 300; round++) {
            filler[0] += manyCalls(new RouteProofs(), round);
        }
        long before = BEAN.getCurrentThreadAllocatedBytes();
        RouteProofs x = new RouteProofs();
        long made = BEAN.getCurrentThreadAllocatedBytes();
        x.pair(0, 1);
        x.tuples();
        long full = BEAN.getCurrentThreadAllocatedBytes();
        long sum = dearCalls(x);
        long after = BEAN.getCurrentThreadAllocatedBytes();
        DUE.holds("a new object is small: " + (made - before), made - before < 20000);
        DUE.holds("the rows of tuples() are made once: " + (full - made), full - made < 120000);
        DUE.holds("calls make nothing: " + (after - full), after - full < 2000);
        DUE.holds("the calls were made", sum != 0 && filler[0] != 0);
        DUE.end();
    }

    private static long dearCalls(RouteProofs x) {
        long sum = 0;
        x.setUp(8, 8);
        for (int cell = 0; cell < 64; cell++) {
            x.role(cell, cell % 4);
            x.wire(cell % 4, cell);
        }
        x.pair(3, 31);
        x.pair(2, 39);
        x.pair(1, 47);
        x.pair(0, 55);
        for (int round = 0; round < 20; round++) {
            x.put('.');
            sum += x.flow() + x.bestTurns(0) + x.cover() + x.tuples() + x.determinant() + x.falling(0, 63);
            sum += x.cell(round, 8) + x.pass(1, 2) + x.group(2) + x.shortest(0, 63, 9) + x.fault() + x.load();
            sum += x.save(0) + x.restore(0) + x.step(0, round) + x.exchange(0, 1) + x.check(31, 0) + x.changed(round);
        }
        return sum;
    }

    /** Calls with edge arguments on all methods, in states that they bring about. */
    private static long manyCalls(RouteProofs x, int seed) {
        Random random = new Random(seed);
        long sum = 0;
        for (int call = 0; call < 512; call++) {
            int a = any(random);
            int b = any(random);
            int c = any(random);
            sum += change(x, random.nextInt(17), a, b, random) + ask(x, random.nextInt(17), a, b, c);
        }
        return sum;
    }

    private static int any(Random random) {
        return random.nextInt(3) == 0 ? EDGES[random.nextInt(EDGES.length)] : random.nextInt(random.nextBoolean() ? 5 : 36);
    }

    private static long change(RouteProofs x, int kind, int a, int b, Random random) {
        switch (kind) {
            case 0: return random.nextInt(8) == 0 ? x.setUp(a, b) : 0;
            case 1: return x.wall(a, b);
            case 2: return x.role(a, b);
            case 3: return x.wire(a, b);
            case 4: return x.turn(a);
            case 5: return x.put(random.nextLong());
            case 6: return x.put(Texts.packed("../..".substring(0, 1 + random.nextInt(5))));
            case 7: return x.wipe();
            case 8: return x.load();
            case 9: return x.pair(a, b);
            case 10: return x.unpair();
            case 11: return x.back(a);
            case 12: return x.exchange(a, b);
            case 13: return x.save(a);
            case 14: return x.restore(a);
            default: return x.step(a, b);
        }
    }

    private static long ask(RouteProofs x, int kind, int a, int b, int c) {
        switch (kind) {
            case 0: return x.cell(a, b);
            case 1: return x.fault();
            case 2: return x.falling(a, b);
            case 3: return x.tuples();
            case 4: return x.determinant();
            case 5: return x.steps(a, b);
            case 6: return x.shortest(a, b, c);
            case 7: return x.flow();
            case 8: return x.pass(a, b);
            case 9: return x.changed(a);
            case 10: return x.bestTurns(a);
            case 11: return x.cover();
            case 12: return x.group(a);
            case 13: return x.route(a, b);
            case 14: return x.about(a, b) + x.meeting(a, b);
            case 15: return x.check(a, b);
            default: return x.count(a);
        }
    }
}
