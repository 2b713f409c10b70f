import java.lang.management.ManagementFactory;

/** All calls of a run live in one room: a new object is small, and calls make nothing. */
public final class RoomTest {
    private static final long MOST_FOR_ONE = 10_000, MOST_FOR_CALLS = 2_000;

    private static long madeSoFar() {
        return ((com.sun.management.ThreadMXBean) ManagementFactory.getThreadMXBean()).getThreadAllocatedBytes(Thread.currentThread().getId());
    }

    private static int calls(SixBeds x) {
        int sum = 0;
        for (int k = 0; k < 16; k++) {
            sum += x.type(0x70347730L + k % 8, 4) + x.type(0x2C73332C6C322C6EL, 8) + x.type(0x332C7031L, 4) + x.lodging();
            sum += x.lodger(k % 4, 1 + k % 4, k) + x.beds(1 + k % 7) + x.lasts(1 + k % 9) + x.work(0, k);
            sum += x.first(0) + x.ways() + x.fewest() + x.take() + x.move(0, k % 8) + x.mended(-1) + x.rents(-1);
            sum += x.bed(0, 0) + x.linen() + x.sick(3, 30) + x.brought(3, 30) + x.image() + x.restore();
            sum += x.sheet(k % 4, k % 3, 16) + x.item(k % 4, k % 3, 0, k) + x.film(k % 4, k % 3, 1) + x.lay(k % 4, k % 3, 1);
            sum += x.judged(k % 4, k % 3, 1) + x.clears(k % 4, k % 3, 1) + x.copy(0, 0, k % 4, 1, 9) + x.count(4) + x.leave(0);
        }
        return sum;
    }

    public static void main(String[] args) {
        int sum = calls(new SixBeds());
        long ahead = madeSoFar();
        SixBeds x = new SixBeds();
        long made = madeSoFar() - ahead;
        sum += calls(x);
        long byCalls = madeSoFar() - ahead - made;
        System.out.println("a new object takes " + made + " bytes, its calls " + byCalls + " (" + sum + ")");
        if (made > MOST_FOR_ONE || byCalls > MOST_FOR_CALLS) {
            System.exit(1);
        }
    }
}
