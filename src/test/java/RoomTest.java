import java.lang.management.ManagementFactory;

/** All calls of a run live in one room: what an object takes is taken when it is made. */
final class RoomTest {
    private static final int MOST_BYTES_OF_ONE = 20_000;
    private static final int MOST_BYTES_OF_CALLS = 2_000;

    public static void main(String[] args) {
        Checks checks = new Checks();
        com.sun.management.ThreadMXBean threads =
            (com.sun.management.ThreadMXBean) ManagementFactory.getThreadMXBean();
        long me = Thread.currentThread().getId();
        useAll(new BattleBench());
        long start = threads.getThreadAllocatedBytes(me);
        BattleBench x = new BattleBench();
        long made = threads.getThreadAllocatedBytes(me);
        useAll(x);
        long used = threads.getThreadAllocatedBytes(me);
        checks.due("one object is small", made - start <= MOST_BYTES_OF_ONE ? 1 : 0, 1);
        checks.due("calls make nothing", used - made <= MOST_BYTES_OF_CALLS ? 1 : 0, 1);
        checks.end();
    }

    private static void useAll(BattleBench x) {
        for (int kind = 0; kind < 6; kind++) {
            x.man(kind % 5, 60);
        }
        for (int n = 0; n < 10; n++) {
            x.stood(n % 6, n % 3, 9 - n);
            x.move(n % 5);
            x.nurse(n % 6, 5);
            x.years(1);
            x.drift(1);
            x.undo();
            x.image();
            x.restore();
            x.ahead(0, 60);
            x.then(60);
            x.ends(0);
            x.lonely();
            x.close(0, 1);
            x.swaps(0);
            x.stay(0, 1);
            x.ways();
            x.ease(0);
            x.left(30, 0);
            x.winter(1, 3, 0);
            x.sheet(n % 4, 2, 24);
            x.film(0, 24, n % 4, 2, 0);
            x.failed(0, n % 4, 2, 0, 8, 1);
            x.item(n % 4, 2, 0, 7);
            x.copy(n % 4, 0, n % 4, 1, 5);
            x.of(0, 8);
            x.seat(0);
            x.count(5);
            x.seed(n);
        }
        x.type('p');
        x.type('5');
        x.read();
        x.drop(0);
    }
}
