import java.lang.management.ManagementFactory;
import java.util.Random;

/** Any arguments in any state: no call throws, each ends, and none makes anything. */
public final class RoomTest {
    private static final int OBJECTS = 400;
    private static final int CALLS = 512;
    /** What measuring itself may make; a call that makes one array would come to far more. */
    private static final long MEASURING = 64 * 1024;

    private static final int[] EDGES = {Integer.MIN_VALUE, Integer.MIN_VALUE + 1, -2, -1, 0, 1, 5, 6, 7, 12, 13, 31, 32,
        63, 64, 65, 199, 200, 201, 1 << 16, Integer.MAX_VALUE - 1, Integer.MAX_VALUE};

    private final Random random = new Random(7L);
    private long sum = 0L;

    public static void main(String[] args) {
        Check check = new Check();
        RoomTest test = new RoomTest();
        HoleHouse[] houses = new HoleHouse[OBJECTS];
        for (int i = 0; i < OBJECTS; i++) {
            houses[i] = new HoleHouse();
        }
        long before = made();
        for (HoleHouse house : houses) {
            for (int i = 0; i < CALLS; i++) {
                test.call(house);
            }
        }
        long after = made();
        check.hold("the calls made " + (after - before) + " bytes", after - before < MEASURING);
        check.hold("the calls answered", test.sum != 0L);
        check.finish();
    }

    private static long made() {
        return ((com.sun.management.ThreadMXBean) ManagementFactory.getThreadMXBean()).getCurrentThreadAllocatedBytes();
    }

    private int any() {
        int kind = random.nextInt(8);
        return kind == 0 ? random.nextInt() : kind < 3 ? EDGES[random.nextInt(EDGES.length)] : random.nextInt(64);
    }

    private void call(HoleHouse x) {
        switch (random.nextInt(29)) {
            case 0: add(x.points(random.nextBoolean() ? 6 : any())); break;
            case 1: case 2: case 3: add(x.face(any())); break;
            case 4: add(x.cut(any())); break;
            case 5: add(x.link(any())); break;
            case 6: add(x.dual()); break;
            case 7: add(x.undo()); break;
            case 8: case 9: add(x.look(random.nextBoolean() ? random.nextInt(9) : any())); break;
            case 10: add(x.has(any())); break;
            case 11: add(x.faces(any())); break;
            case 12: add(x.missing(any())); break;
            case 13: add(x.holes(any(), random.nextInt(7) - 1)); break;
            case 14: add(x.holes(any(), any())); break;
            case 15: add(x.space(any(), random.nextInt(2))); break;
            case 16: add(x.tower(random.nextInt(7), random.nextInt(7))); break;
            case 17: add(x.tower(any(), any())); break;
            case 18: add(x.rank(any(), any(), random.nextInt(3), random.nextInt(3))); break;
            case 19: add(x.rank(any(), any(), any(), any())); break;
            case 20: add(x.first(any())); break;
            case 21: add(x.alike(any(), any())); break;
            case 22: add(x.feed(0x363A2030, 0x31322034, any() & 0x3F3F3F3F, any(), any())); break;
            case 23: add(x.end(any())); break;
            case 24: add(x.read()); break;
            case 25: add(x.write()); break;
            case 26: add(x.out(any())); break;
            case 27: add(x.fault()); break;
            default: add(x.take()); break;
        }
    }

    private void add(boolean answer) {
        sum = sum * 31L + (answer ? 1L : 2L);
    }

    private void add(int answer) {
        sum = sum * 31L + answer;
    }
}
