import java.lang.management.ManagementFactory;

/** What a run takes of the one room that all its calls live in: a new object, and its 512 dearest calls. */
public final class RoomTest {
    private static final int MOST_CALLS = 512;
    // A whole run may have 7.3 million elements: an object and all its calls shall need a small part of that.
    private static final long MOST_BYTES = 100_000;

    private static long allocated() {
        return ((com.sun.management.ThreadMXBean) ManagementFactory.getThreadMXBean()).getCurrentThreadAllocatedBytes();
    }

    private static WholeSound loudest() {
        WholeSound x = new WholeSound();
        x.channel(16);
        x.channel(16);
        for (int i = 0; i < 4; i++) {
            x.fill(0, 3, 64, 32767, 0);
            x.fill(1, 3, 64, 32767, 0);
        }
        x.predictor(5, 31, -31, 31, 0);
        x.predictor(6, 3, 2, 1, 2);
        x.predictor(7, 0, 0, 15, 4);
        x.frame(16);
        x.pack();
        return x;
    }

    private static int use(WholeSound x) {
        int sum = 0;
        for (int i = 12; i < MOST_CALLS; i++) {
            switch (i % 8) {
                case 0: sum += x.best(); break;
                case 1: sum += x.pack(); break;
                case 2: sum += x.same(); break;
                case 3: sum += x.near(22); break;
                case 4: sum += x.heard(1, 255); break;
                case 5: sum += x.tried(3, 1, 5); break;
                case 6: sum += x.mean(3, 1, 5); break;
                default: sum += x.ratio() + x.loud(1, 1);
            }
        }
        return sum;
    }

    public static void main(String[] args) {
        loudest();
        use(loudest());
        long before = allocated();
        WholeSound x = loudest();
        long made = allocated() - before;
        int sum = use(x);
        long used = allocated() - before;
        System.out.println("RoomTest: " + made + " bytes made at first, " + used + " in all (" + sum + ")");
        if (used > MOST_BYTES) {
            System.exit(1);
        }
    }
}
