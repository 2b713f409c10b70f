/** Lodgings by which a search tries the most rows, found by climbing; compared with SlowBeds. */
public final class HardLodgingsTest {
    private static int wrong = 0;

    private static void same(String what, int got, int want) {
        if (got != want) {
            wrong++;
            System.out.println(what + " is " + got + ", due is " + want);
        }
    }

    private static void compare(int beds, int[] kinds, int[] needs, int[] works, int[] row) {
        SixBeds fast = new SixBeds();
        SlowBeds slow = new SlowBeds();
        fast.beds(beds);
        slow.beds(beds);
        fast.sheet(0, 0, 7);
        slow.sheet(0, 0, 7);
        for (int l = 0; l < 7; l++) {
            fast.lodger(kinds[l], needs[l], works[l]);
            slow.lodger(kinds[l], needs[l], works[l]);
            fast.item(0, 0, l, row[l]);
            slow.item(0, 0, l, row[l]);
        }
        same("lay", fast.lay(0, 0, 0), slow.lay(0, 0, 0));
        same("first", fast.first(6), slow.first(6));
        same("ways", fast.ways(), slow.ways());
        same("fewest", fast.fewest(), slow.fewest());
        for (int i = -1; i < 7; i++) {
            same("mended " + i, fast.mended(i), slow.mended(i));
        }
        for (int p = -1; p < 8; p += 4) {
            same("rents " + p, fast.rents(p), slow.rents(p));
        }
    }

    private static int[] of(int... numbers) {
        return numbers;
    }

    public static void main(String[] args) {
        compare(3, of(0, 2, 1, 0, 2, 1, 0), of(4, 4, 2, 4, 3, 2, 4), of(0, 0, 4, 0, 0, 2, 0), of(1, 2, 2, 4, 6, 3, 1));
        compare(6, of(2, 2, 0, 0, 2, 0, 1), of(4, 4, 4, 4, 1, 4, 2), of(0, 0, 0, 0, 0, 0, 1), of(3, 5, 3, 0, 1, 1, 6));
        compare(2, of(2, 2, 2, 2, 0, 2, 2), of(3, 1, 1, 1, 4, 1, 1), of(128, 0, 0, 0, 64, 0, 0), of(7, 2, 2, 2, 3, 2, 2));
        compare(3, of(1, 3, 3, 0, 0, 3, 0), of(2, 4, 4, 4, 4, 1, 4), of(8, 0, 0, 0, 0, 0, 0), of(6, 0, 5, 1, 4, 2, 5));
        compare(3, of(2, 2, 1, 1, 2, 1, 2), of(2, 4, 4, 4, 1, 4, 4), of(0, 0, 0, 0, 0, 0, 0), of(6, 2, 5, 1, 3, 2, 3));
        compare(6, of(3, 3, 3, 3, 3, 3, 2), of(4, 4, 4, 4, 4, 4, 4), of(0, 0, 0, 0, 0, 0, 134), of(0, 1, 2, 3, 4, 5, 6));
        compare(4, of(0, 3, 3, 2, 3, 3, 3), of(1, 3, 3, 3, 3, 4, 4), of(16, 0, 0, 0, 32, 0, 0), of(1, 2, 3, 4, 0, 4, 5));
        compare(6, of(3, 3, 0, 3, 3, 3, 0), of(1, 1, 2, 1, 1, 1, 1), of(4, 32, 14, 128, 2, 2, 193), of(7, 5, 1, 7, 1, 1, 7));
        System.out.println(wrong + " answers are not as SlowBeds has them");
        if (wrong != 0) {
            System.exit(1);
        }
    }
}
