import java.lang.management.ManagementFactory;

/** All calls live in one room: rows are made with the object, and calls use them again. */
public final class RoomTest {
    private static final int CALLS = 512;
    private static final long MOST_OF_AN_OBJECT = 200_000;
    private static final long MOST_OF_ALL_CALLS = 50_000;
    private static int sum = 0;

    public static void main(String[] args) {
        dearCalls(new HalfMaps());
        long start = bytes();
        HalfMaps x = new HalfMaps();
        long made = bytes();
        dearCalls(x);
        long end = bytes();
        System.out.println("an object takes " + (made - start) + " bytes, its calls " + (end - made) + " (" + sum + ")");
        if (made - start > MOST_OF_AN_OBJECT || end - made > MOST_OF_ALL_CALLS) {
            System.out.println("that is too much");
            System.exit(1);
        }
    }

    private static long bytes() {
        return ((com.sun.management.ThreadMXBean) ManagementFactory.getThreadMXBean()).getCurrentThreadAllocatedBytes();
    }

    private static void dearCalls(HalfMaps x) {
        x.set(0, 2540);
        x.set(1, 7460);
        x.set(2, 985);
        x.say('x');
        x.word(0);
        x.say('x');
        x.say('x');
        x.say('X');
        x.say('X');
        x.word(1);
        x.say('x');
        x.say('X');
        x.word(2);
        x.rule(0, 1, 1, 2);
        for (int i = 14; i < CALLS; i++) {
            sum += dearCall(x, i);
        }
    }

    private static int dearCall(HalfMaps x, int i) {
        switch (i % 8) {
            case 0:
                return x.made(3, i / 8 % 6);
            case 1:
                return x.made(2, i / 8 % 6);
            case 2:
                return x.way(3, 3, -1);
            case 3:
                return x.net(0, 0);
            case 4:
                return x.reads(0, 1);
            case 5:
                return x.image(i / 8 % 2);
            case 6:
                return x.restore(1 - i / 8 % 2);
            default:
                return x.compare(0, 1) + x.tree(1, 2);
        }
    }
}
