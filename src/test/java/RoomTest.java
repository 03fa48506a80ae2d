import com.sun.management.ThreadMXBean;
import java.lang.management.ManagementFactory;

/** All calls of a run live in one room: what an object needs is made with it, and its dearest calls make nothing. */
public final class RoomTest {
    public static void main(String[] args) {
        // The first time round the machine loads classes; the second is looked at.
        made();
        long bytes = made();
        Due.due("bytes that 24 rounds of calls made: " + bytes, bytes < 4096 ? 1 : 0, 1);
        Due.end();
    }

    private static long made() {
        ItWasLikeThat x = Due.told("r46;d01;d02;d03;d12;d13;d23;c000;c100;c310;c590;b35;");
        for (int i = 0; i < 8; i++) {
            x.says(i % 4, (i + 1) % 4, i % 6, i % 4);
        }
        long before = soFar();
        for (int i = 0; i < 24; i++) {
            round(x, i);
        }
        return soFar() - before;
    }

    private static void round(ItWasLikeThat x, int i) {
        x.most(3);
        x.first();
        x.who(0, 0);
        x.missed(3, 1);
        x.learn(20, 0, 50);
        x.seeds(20, i, 0);
        x.fact(0, 0, 0, 0);
        x.unfact();
        x.image();
        x.restore();
        x.feed('d');
        x.feed('0');
        x.feed('1');
        x.feed(';');
        x.house();
        x.row(1);
        x.judge();
    }

    private static long soFar() {
        ThreadMXBean threads = (ThreadMXBean) ManagementFactory.getThreadMXBean();
        return threads.getThreadAllocatedBytes(Thread.currentThread().getId());
    }
}
