import java.util.Random;

/** Runs of calls drawn from fixed seeds, each answer compared with that of SlowBeds. */
public final class RandomRunsTest {
    private static final int RUNS = 400, CALLS = 512;
    private static final int[] EDGES = {Integer.MIN_VALUE, Integer.MIN_VALUE + 1, -300, -2, -1, 0, 1, 2, 3, 4, 5, 6, 7, 8, 9, 10,
        15, 16, 17, 30, 31, 32, 63, 64, 100, 127, 128, 255, 256, 511, Integer.MAX_VALUE - 1, Integer.MAX_VALUE};

    private final Random random;
    private final SixBeds fast = new SixBeds();
    private final SlowBeds slow = new SlowBeds();
    private final StringBuilder told = new StringBuilder();
    private boolean wrong = false;

    private RandomRunsTest(long seed) {
        random = new Random(seed);
    }

    private void same(String call, int got, int want) {
        told.append(call).append(" -> ").append(got).append('\n');
        if (got != want) {
            wrong = true;
            told.append("  due is ").append(want).append('\n');
        }
    }

    private int to(int most) {
        return random.nextInt(most + 1);
    }

    /** Mostly low .. high, now and then just beside it or far off. */
    private int near(int low, int high) {
        switch (to(39)) {
            case 0: return low - 1;
            case 1: return high + 1;
            case 2: return EDGES[to(EDGES.length - 1)];
            default: return low + to(Math.max(0, high - low));
        }
    }

    private int lodgerNumber() {
        return near(0, slow.lodgers.size() - 1);
    }

    private int workSet() {
        int set = 0;
        for (int k = to(3); k > 0; k--) {
            set |= 1 << to(7);
        }
        return to(3) == 0 ? near(0, 255) : set;
    }

    private String lodgingText() {
        StringBuilder text = new StringBuilder();
        int n = 1 + to(to(5) == 0 ? 7 : 6);
        for (int l = 0; l < n; l++) {
            text.append(l > 0 ? "," : "").append("psln".charAt(to(3))).append((char) ('1' + to(3)));
            if (to(1) == 0) {
                text.append('w');
                int from = to(7), digits = 1 + to(to(3) == 0 ? 7 : 2);
                for (int k = 0; k < digits; k++) {
                    text.append((char) ('0' + (from + 3 * k) % 8));
                }
            }
        }
        for (int k = to(1) * to(4); k > 0; k--) {
            text.insert(to(text.length()), ' ');
        }
        if (to(2) == 0) {
            int at = to(text.length());
            switch (to(2)) {
                case 0: text.insert(at, "psln,w012345678 ;~".charAt(to(17))); break;
                case 1: text.setLength(at); break;
                default: text.delete(at, Math.min(text.length(), at + 1)); break;
            }
        }
        return text.toString();
    }

    private void typeLodging() {
        String text = lodgingText();
        for (int at = 0; at < text.length(); ) {
            int n = Math.min(text.length() - at, 1 + to(7));
            long w = to(1) == 0 ? 0 : random.nextLong() << 8 * n;
            if (n == 8) {
                w = 0;
            }
            for (int k = 0; k < n; k++) {
                w |= (long) text.charAt(at + k) << 8 * (n - 1 - k);
            }
            same("type(" + w + ", " + n + ")", fast.type(w, n), slow.type(w, n));
            at += n;
        }
        same("lodging()", fast.lodging(), slow.lodging());
    }

    private void lodgers() {
        int l = lodgerNumber();
        switch (to(13)) {
            case 0: {
                int k = near(0, 3), n = near(1, 4), w = workSet();
                same("lodger(" + k + ", " + n + ", " + w + ")", fast.lodger(k, n, w), slow.lodger(k, n, w));
                break;
            }
            case 1: same("leave(" + l + ")", fast.leave(l), slow.leave(l)); break;
            case 2: case 3: case 4: {
                int what = near(0, 4);
                same("told(" + l + ", " + what + ")", fast.told(l, what), slow.told(l, what));
                break;
            }
            case 5: case 6: {
                int w = workSet();
                same("work(" + l + ", " + w + ")", fast.work(l, w), slow.work(l, w));
                break;
            }
            case 7: {
                int p = near(0, 7);
                same("sleeps(" + l + ", " + p + ")", fast.sleeps(l, p), slow.sleeps(l, p));
                break;
            }
            case 8: {
                int v = near(1, 7);
                same("beds(" + v + ")", fast.beds(v), slow.beds(v));
                break;
            }
            case 9: {
                int v = near(1, 9);
                same("lasts(" + v + ")", fast.lasts(v), slow.lasts(v));
                break;
            }
            case 10: {
                long w = to(3) == 0 ? random.nextLong() : 0x7031202020202020L;
                int n = near(1, 8);
                same("type(" + w + ", " + n + ")", fast.type(w, n), slow.type(w, n));
                break;
            }
            case 11: if (to(3) == 0) typeLodging(); break;
            default: {
                int what = near(0, 4);
                same("count(" + what + ")", fast.count(what), slow.count(what));
            }
        }
    }

    private void rows() {
        int l = lodgerNumber();
        switch (to(7)) {
            case 0: same("first(" + l + ")", fast.first(l), slow.first(l)); break;
            case 1: same("ways()", fast.ways(), slow.ways()); break;
            case 2: same("fewest()", fast.fewest(), slow.fewest()); break;
            case 3: case 4: {
                if (to(1) == 0) {
                    same("take()", fast.take(), slow.take());
                }
                int p = near(0, 7);
                same("move(" + l + ", " + p + ")", fast.move(l, p), slow.move(l, p));
                break;
            }
            case 5: case 6: {
                int i = near(-1, slow.lodgers.size() - 1);
                same("mended(" + i + ")", fast.mended(i), slow.mended(i));
                break;
            }
            default: {
                int p = near(-1, 7);
                same("rents(" + p + ")", fast.rents(p), slow.rents(p));
            }
        }
    }

    private void colds() {
        int everybody = (1 << slow.lodgers.size()) - 1;
        if (to(2) == 0 && slow.row != null && !slow.rowGood()) {
            same("take()", fast.take(), slow.take());
        }
        switch (to(6)) {
            case 0: case 1: {
                int l = lodgerNumber(), p = near(0, 7);
                same("bed(" + l + ", " + p + ")", fast.bed(l, p), slow.bed(l, p));
                break;
            }
            case 2: same("linen()", fast.linen(), slow.linen()); break;
            case 3: case 4: {
                int set = near(0, everybody), d = near(1, to(1) == 0 ? 3 : 30);
                same("sick(" + set + ", " + d + ")", fast.sick(set, d), slow.sick(set, d));
                break;
            }
            case 5: {
                int d = near(1, to(1) == 0 ? 3 : 30);
                int set = to(1) == 0 ? near(0, everybody) : Math.max(0, slow.sick(1 << to(6), d));
                same("brought(" + set + ", " + d + ")", fast.brought(set, d), slow.brought(set, d));
                break;
            }
            default: {
                if (to(2) == 0) {
                    same("image()", fast.image(), slow.image());
                } else {
                    same("restore()", fast.restore(), slow.restore());
                }
            }
        }
    }

    private void sheets() {
        int s = near(0, 3), lane = near(0, 2), i = to(2) == 0 ? near(0, 16) : near(0, 3);
        if (s >= 0 && s <= 3 && slow.sheets[s] != null && to(5) != 0) {
            lane = SlowBeds.laneOf(slow.sheets[s]);
        }
        String at = "(" + s + ", " + lane + ", " + i + ")";
        switch (to(8)) {
            case 0: {
                int n = near(0, 16);
                if (to(3) == 0) {
                    same("drop(" + s + ")", fast.drop(s), slow.drop(s));
                } else {
                    same("sheet(" + s + ", " + lane + ", " + n + ")", fast.sheet(s, lane, n), slow.sheet(s, lane, n));
                }
                break;
            }
            case 1: fill(s, lane, 7); same("lay" + at, fast.lay(s, lane, i), slow.lay(s, lane, i)); break;
            case 2: fill(s, lane, 7); same("judged" + at, fast.judged(s, lane, i), slow.judged(s, lane, i)); break;
            case 3: fill(s, lane, 2); same("clears" + at, fast.clears(s, lane, i), slow.clears(s, lane, i)); break;
            case 4: case 5: {
                long v = to(9) == 0 ? random.nextLong() : to(9) == 0 ? 256L * to(9) + to(7) : near(0, 7);
                same("item(" + s + ", " + lane + ", " + i + ", " + v + ")", fast.item(s, lane, i, v), slow.item(s, lane, i, v));
                break;
            }
            case 6: same("film" + at, fast.film(s, lane, i), slow.film(s, lane, i)); break;
            default: {
                int t = near(0, 3), j = near(0, 5), n = near(0, 8);
                same("copy(" + s + ", " + i + ", " + t + ", " + j + ", " + n + ")", fast.copy(s, i, t, j, n), slow.copy(s, i, t, j, n));
            }
        }
    }

    private void fill(int s, int lane, int most) {
        if (to(2) != 0 || s < 0 || s > 3) {
            return;
        }
        int n = slow.sheets[s] == null ? 0 : SlowBeds.sizeOf(slow.sheets[s]);
        for (int i = 0; i < n; i++) {
            long v = to(60) == 0 ? most + 1 : to(most);
            same("item(" + s + ", " + lane + ", " + i + ", " + v + ")", fast.item(s, lane, i, v), slow.item(s, lane, i, v));
        }
    }

    private void runOnce() {
        typeLodging();
        for (int k = 0; k < CALLS - 30 && !wrong; k++) {
            switch (to(6)) {
                case 0: case 1: lodgers(); break;
                case 2: rows(); break;
                case 3: case 4: colds(); break;
                default: sheets();
            }
            if (k % 50 == 49 && to(1) == 0) {
                typeLodging();
            }
        }
    }

    public static void main(String[] args) {
        int wrongRuns = 0;
        for (int run = 0; run < RUNS && wrongRuns < 3; run++) {
            RandomRunsTest test = new RandomRunsTest(run);
            test.runOnce();
            if (test.wrong) {
                wrongRuns++;
                System.out.println("run " + run + ":\n" + test.told);
            }
        }
        System.out.println(wrongRuns == 0 ? RUNS + " runs are as SlowBeds has them" : wrongRuns + " runs are wrong");
        if (wrongRuns != 0) {
            System.exit(1);
        }
    }
}
