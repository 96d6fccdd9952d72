import java.lang.management.ManagementFactory;

/** All calls of a run live in one room: an object is small, and its calls make nothing but images. */
public final class RoomTest {
    private static final com.sun.management.ThreadMXBean THREADS =
            (com.sun.management.ThreadMXBean) ManagementFactory.getThreadMXBean();

    public static void main(String[] args) {
        Checks checks = new Checks();
        use(new TwoChoices());
        long start = bytes();
        TwoChoices map = new TwoChoices();
        long made = bytes();
        use(map);
        long used = bytes();
        use(map);
        long usedAgain = bytes();
        System.out.println("an object: " + (made - start) + " bytes, its first calls: " + (used - made)
                + ", the same again: " + (usedAgain - used));
        checks.due("an object has at most 40000 bytes", made - start <= 40000, true);
        checks.due("three images have at most 20000 bytes", used - made <= 20000, true);
        checks.due("further calls make nothing", usedAgain - used <= 1000, true);
        checks.end();
    }

    private static long bytes() {
        return THREADS.getThreadAllocatedBytes(Thread.currentThread().getId());
    }

    private static void use(TwoChoices map) {
        map.end(0);
        // "full test;kick walk;"
        map.feed(0x66756c6c, 0x20746573, 0x743b6b69, 0x636b2077, 0x616c6b3b);
        map.text();
        map.fault(0);
        for (int k = 0; k < 40; k++) {
            map.put(k * 7, k);
            map.get(k);
            map.would(k);
            map.chain(k, -1);
            map.fits(k);
            map.find(k, k % 6);
            map.count(k % 27);
        }
        for (int k = 0; k < 3; k++) {
            map.image(k);
            map.lost(k);
            map.least(k);
            map.which(k);
            map.tried(k, 12, k);
            map.load(k, 12);
            map.peel(k, 0);
            map.key(k, true);
            map.part(k, 0);
            map.at(k, 0, 0);
            map.drop(k * 7);
            map.again(k);
        }
        map.settle();
        map.batch();
        map.rehash(1, 2, 3, 4);
        map.over();
        map.restless();
        map.filled(1);
    }
}
