import com.sun.management.ThreadMXBean;
import java.lang.management.ManagementFactory;

/**
 * What dear runs of 512 calls make. An object has 16 bytes at least and an element one, so that this
 * many bytes are far less than the 600,000 objects and 7.3 million elements of a room.
 */
public final class RoomTest {
    private static final long BOUND = 2_000_000;
    private static final int CALLS = 512;

    private final LogCluster x;
    private final int servers;
    private int left = CALLS;

    private RoomTest(int servers, int replicas, int units, int memory) {
        this.servers = servers;
        x = new LogCluster(servers, replicas, units, memory);
    }

    private void write(int n) {
        if (left >= 2) {
            x.send(n % 6, 1, n * 11 % 64, n, 0);
            x.deliver(0);
            x.drop(0);
            left -= 3;
        }
    }

    /** Many RESULTS that stay LIVE, then one SERVER after another goes DOWN and is recovered at once. */
    private void recoveries(int writes, int down) {
        for (int i = 0; i < writes; i++) {
            write(i);
        }
        for (int turn = 0; left > 2 * down; turn++) {
            for (int i = 0; i < down; i++) {
                x.crash((turn + i) % servers);
                x.restart((turn + i) % servers);
            }
            x.tick(1);
            left -= 2 * down + 1;
        }
    }

    /** Sleepers that come to be DEAD and forget, over and over. */
    private void sleepers() {
        for (int turn = 0; left > 3; turn++) {
            x.sleep(turn % servers);
            x.tick(100);
            x.wake(turn % servers);
            left -= 3;
        }
    }

    /** Every READ opens a SEGMENT, for a HOLDER of the HEAD sleeps. */
    private void openings() {
        for (int turn = 0; left > 5; turn++) {
            int sleeper = 1 + turn % (servers - 1);
            x.sleep(sleeper);
            x.send(turn / 40 % 6, 0, 0, 0, 0);
            x.deliver(0);
            x.drop(0);
            x.wake(sleeper);
            left -= 5;
        }
    }

    private static long bytes(int s, int r, int z, int m, int way) {
        ThreadMXBean threads = (ThreadMXBean) ManagementFactory.getThreadMXBean();
        long before = threads.getThreadAllocatedBytes(Thread.currentThread().getId());
        RoomTest run = new RoomTest(s, r, z, m);
        if (way < 4) {
            run.recoveries(way == 0 ? 20 : 60, way == 3 ? s : way == 2 ? 2 : 1);
        } else if (way == 4) {
            run.sleepers();
        } else {
            run.openings();
        }
        return threads.getThreadAllocatedBytes(Thread.currentThread().getId()) - before;
    }

    public static void main(String[] args) {
        long most = 0;
        for (int s = 4; s <= 8; s += 4) {
            for (int z = 6; z <= 16; z += 5) {
                for (int m = 5; m <= 16; m += 11) {
                    for (int way = 0; way < 6; way++) {
                        most = Math.max(most, bytes(s, 2 + way % 2, z, m, way));
                    }
                }
            }
        }
        System.out.println("the dearest run made " + most + " bytes");
        if (most > BOUND) {
            System.out.println("that is above " + BOUND);
            System.exit(1);
        }
    }
}
