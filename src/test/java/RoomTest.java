import com.sun.management.ThreadMXBean;
import java.lang.management.ManagementFactory;

/** An object's 512 calls, the dear ones among them, must stay small: all calls of a run share one room. */
public final class RoomTest {
    private static final long MOST_BYTES = 120_000;

    public static void main(String[] args) {
        play();
        ThreadMXBean bean = (ThreadMXBean) ManagementFactory.getThreadMXBean();
        long thread = Thread.currentThread().getId();
        long before = bean.getThreadAllocatedBytes(thread);
        play();
        long bytes = bean.getThreadAllocatedBytes(thread) - before;
        System.out.println("RoomTest: " + bytes + " bytes");
        System.exit(bytes <= MOST_BYTES ? 0 : 1);
    }

    private static void feed(RanOut x) {
        // 20 bytes: "roll;roll;roll;roll;"
        x.feed(1919904876, 997355372, 1815835247, 1819032434, 1869376571);
    }

    private static void play() {
        RanOut x = new RanOut();
        int calls = 0;
        for (int c = 0; c < 60; c++, calls++) {
            x.claim(c % 6, c % 10, c, c, c, c);
        }
        for (int f = 0; f < 24; f++, calls++) {
            x.fact(f % 2, f % 8, 10 * f, 10 * f);
        }
        for (int k = 0; k < 6; k++, calls++) {
            x.act(k, 4 + k % 4, 20 + k, k, k, k + 1, k + 2);
        }
        for (; calls < 512; calls++) {
            switch (calls % 12) {
                case 0: feed(x); break;
                case 1: x.text(calls % 8); break;
                case 2: x.image(calls % 5 != 0); break;
                case 3: x.span(0, 0); break;
                case 4: x.contest(100, 2, 0); break;
                case 5: x.worth(100, 500, 1); break;
                case 6: x.beside(1, 0, 0); break;
                case 7: x.look(3); break;
                case 8: x.cheapest(100, 1); break;
                case 9: x.pay(1); break;
                case 10: x.one(100, 1); break;
                default: x.step(1, 4999, 0); break;
            }
        }
    }
}
