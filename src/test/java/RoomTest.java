import java.lang.management.ManagementFactory;

/** All calls of a run share one room: a new object is small, and no call makes anything that stays or goes. */
public final class RoomTest {
    private static final com.sun.management.ThreadMXBean ROOM =
        (com.sun.management.ThreadMXBean) ManagementFactory.getThreadMXBean();
    private static final long ME = Thread.currentThread().getId();

    private static ShakePictures dearest() {
        ShakePictures x = new ShakePictures();
        x.ground(4, 4);
        for (int b = 1; b < 8; b++) x.split(0, 3 << 2 * b);
        for (int e = 0; e < 6; e++) x.ear(3 * e);
        for (int s = 0; s < 5; s++) x.shake(15 - 2 * s, 10 * s);
        for (int p = 0; p < 12; p++) x.pick(p % 6, p % 5, p % 2, 50 + 40 * p, 60 + 40 * p);
        x.write(0x3b30312074696620L, 8);
        x.write(0x2030312074696620L, 8);
        return x;
    }

    private static int everyCall(ShakePictures x) {
        int sum = 0;
        for (int i = 0; i < 15; i++) {
            sum += x.slow(i % 8, 1 + 4 * i) + x.at(i, 1) + x.time(0, i, 1) + x.way(15, i, 0, 2) + x.clock(i % 6, 9 * i - 60);
            sum += x.put(i % 5, i, 20 * i) + x.tell(i % 12, 10 * i, 900 - 50 * i) + x.days(3) + x.of(i % 12, i % 5) + x.misfit(i, 0);
            sum += x.fit(10) + x.span(i % 8, 1) + x.quarrel() + x.rank() + x.resolved(i % 8) + x.best(0) + x.heap(i % 5, i, 1);
            sum += x.off(i % 6) + x.board(1 + i, 60 - i, i) + x.fault() + x.run() + x.move(i % 5) + x.count(i % 8);
            sum += x.join(i % 8, 7) + x.split(i % 8, 21845) + x.ratio(10 + i) + x.split(99, -1) + x.write(0, 9);
        }
        return sum;
    }

    public static void main(String[] args) {
        everyCall(dearest());
        long before = ROOM.getThreadAllocatedBytes(ME);
        ShakePictures x = dearest();
        long made = ROOM.getThreadAllocatedBytes(ME) - before;
        before = ROOM.getThreadAllocatedBytes(ME);
        int sum = everyCall(x);
        long used = ROOM.getThreadAllocatedBytes(ME) - before;
        System.out.println("an object: " + made + " bytes; 420 calls more: " + used + " bytes (sum " + sum + ")");
        // What the measuring itself takes is well below this; one row a call would be far above.
        if (made > 40000 || used > 2000) System.exit(1);
    }
}
