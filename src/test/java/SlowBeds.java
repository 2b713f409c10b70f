import java.util.ArrayList;
import java.util.Arrays;
import java.util.List;

/** The document word by word, slowly and with nothing remembered: what SixBeds is compared with. */
final class SlowBeds {
    static final int BAD = -1, NOT = -2, FULL = -3, NONE = -4, NULL = -11, CAST = -12, INDEX = -13, SIZE = -14;

    record Lodger(int kind, int need, int work) {
        boolean[] sleep(int part) {
            boolean[] in = new boolean[8];
            if (kind == 1 && need > 1) {
                for (int k = 0; k < need - 1; k++) {
                    in[(part + k) % 8] = true;
                }
                in[(part + 4) % 8] = true;
            } else {
                for (int k = 0; k < need; k++) {
                    in[(part + k) % 8] = true;
                }
            }
            return in;
        }

        boolean may(int part) {
            boolean[] in = sleep(part);
            for (int p = 0; p < 8; p++) {
                if (in[p] && (work >> p & 1) == 1) {
                    return false;
                }
            }
            return true;
        }
    }

    record State(List<Lodger> lodgers, int beds, int lasts, int[] row) { }

    List<Lodger> lodgers = new ArrayList<>();
    int beds = 6, lasts = 7;
    int[] row = null;
    StringBuilder tape = new StringBuilder();
    State image = null;
    Object[] sheets = new Object[4];

    static boolean good(List<Lodger> all, int beds, int[] row, int n) {
        for (int p = 0; p < 8; p++) {
            int sleepers = 0;
            boolean light = false, snorer = false;
            for (int l = 0; l < n; l++) {
                if (row[l] < 0 || row[l] > 7 || !all.get(l).may(row[l])) {
                    return false;
                }
                if (all.get(l).sleep(row[l])[p]) {
                    sleepers++;
                    light |= all.get(l).kind() == 2;
                    snorer |= all.get(l).kind() == 3;
                }
            }
            if (sleepers > beds || light && snorer) {
                return false;
            }
        }
        return true;
    }

    boolean rowGood() {
        return row != null && good(lodgers, beds, row, lodgers.size());
    }

    boolean isLodger(int l) {
        return l >= 0 && l < lodgers.size();
    }

    int lodger(int kind, int need, int work) {
        if (kind < 0 || kind > 3 || need < 1 || need > 4 || work < 0 || work > 255) {
            return BAD;
        }
        if (lodgers.size() == 7) {
            return FULL;
        }
        lodgers.add(new Lodger(kind, need, work));
        row = null;
        return lodgers.size() - 1;
    }

    int leave(int l) {
        if (!isLodger(l)) {
            return BAD;
        }
        lodgers.remove(l);
        row = null;
        return lodgers.size();
    }

    int told(int l, int what) {
        if (!isLodger(l) || what < 0 || what > 4) {
            return BAD;
        }
        Lodger one = lodgers.get(l);
        if (what == 3) {
            int set = 0;
            for (int p = 0; p < 8; p++) {
                set += one.may(p) ? 1 << p : 0;
            }
            return set;
        }
        return what == 0 ? one.kind() : what == 1 ? one.need() : what == 2 ? one.work() : row == null ? NONE : row[l];
    }

    int work(int l, int set) {
        if (!isLodger(l) || set < 0 || set > 255) {
            return BAD;
        }
        Lodger was = lodgers.get(l);
        lodgers.set(l, new Lodger(was.kind(), was.need(), set));
        return was.work();
    }

    int sleeps(int l, int part) {
        if (!isLodger(l) || part < 0 || part > 7) {
            return BAD;
        }
        int set = 0;
        boolean[] in = lodgers.get(l).sleep(part);
        for (int p = 0; p < 8; p++) {
            set += in[p] ? 1 << p : 0;
        }
        return set;
    }

    int beds(int v) {
        if (v < 1 || v > 7) {
            return BAD;
        }
        int was = beds;
        beds = v;
        return was;
    }

    int lasts(int v) {
        if (v < 1 || v > 9) {
            return BAD;
        }
        int was = lasts;
        lasts = v;
        return was;
    }

    int type(long w, int n) {
        if (n < 1 || n > 8) {
            return BAD;
        }
        String more = "";
        for (int k = 0; k < n; k++) {
            int b = (int) (w >> 8 * k & 0xFF);
            if (b < 32 || b > 126) {
                return BAD;
            }
            more = (char) b + more;
        }
        if (tape.length() + n > 100) {
            return FULL;
        }
        tape.append(more);
        return tape.length();
    }

    int lodging() {
        String text = tape.toString();
        tape.setLength(0);
        int[] at = new int[text.length()];
        StringBuilder signs = new StringBuilder();
        for (int k = 0; k < text.length(); k++) {
            if (text.charAt(k) != ' ') {
                at[signs.length()] = k;
                signs.append(text.charAt(k));
            }
        }
        // The longest beginning of the signs that some lodging begins with, by what may follow sign by sign.
        List<Lodger> read = new ArrayList<>();
        String state = "kind";
        int kind = 0, need = 0, work = 0;
        int k = 0;
        for (; k < signs.length(); k++) {
            char c = signs.charAt(k);
            if (state.equals("kind")) {
                if ("psln".indexOf(c) < 0) {
                    break;
                }
                kind = "psln".indexOf(c);
                work = 0;
                state = "need";
            } else if (state.equals("need")) {
                if ("1234".indexOf(c) < 0) {
                    break;
                }
                need = c - '0';
                state = "behind need";
            } else if (c == 'w' && state.equals("behind need")) {
                state = "work";
            } else if (c == ',' && !state.equals("work") && read.size() < 6) {
                read.add(new Lodger(kind, need, work));
                state = "kind";
            } else if (!state.equals("behind need") && c >= '0' && c <= '7' && (work >> (c - '0') & 1) == 0) {
                work |= 1 << (c - '0');
                state = "more work";
            } else {
                break;
            }
        }
        if (k < signs.length()) {
            return -20 - at[k];
        }
        if (!state.equals("behind need") && !state.equals("more work")) {
            return -20 - text.length();
        }
        read.add(new Lodger(kind, need, work));
        lodgers = read;
        row = null;
        return read.size();
    }

    int count(int what) {
        switch (what) {
            case 0: return lodgers.size();
            case 1: return beds;
            case 2: return lodgers.stream().mapToInt(Lodger::need).sum();
            case 3: return row != null ? 1 : 0;
            case 4: return rowGood() ? 1 : 0;
            default: return BAD;
        }
    }

    int[] firstBy(int beds) {
        int[] r = new int[7];
        return firstFrom(0, beds, r) ? r : null;
    }

    boolean firstFrom(int l, int beds, int[] r) {
        if (l == lodgers.size()) {
            return true;
        }
        for (r[l] = 0; r[l] < 8; r[l]++) {
            if (good(lodgers, beds, r, l + 1) && firstFrom(l + 1, beds, r)) {
                return true;
            }
        }
        return false;
    }

    int waysFrom(int l, int[] r, int already) {
        if (l == lodgers.size()) {
            return already + 1;
        }
        for (r[l] = 0; r[l] < 8 && already < 9999; r[l]++) {
            if (good(lodgers, beds, r, l + 1)) {
                already = waysFrom(l + 1, r, already);
            }
        }
        return already;
    }

    int first(int l) {
        if (!isLodger(l)) {
            return BAD;
        }
        int[] r = firstBy(beds);
        return r == null ? NONE : r[l];
    }

    int ways() {
        return waysFrom(0, new int[7], 0);
    }

    int fewest() {
        for (int b = 1; b <= 7; b++) {
            if (firstBy(b) != null) {
                return b;
            }
        }
        return NONE;
    }

    int take() {
        int[] r = firstBy(beds);
        if (r == null) {
            return NONE;
        }
        row = r;
        return lodgers.size();
    }

    int move(int l, int part) {
        if (!isLodger(l) || part < 0 || part > 7) {
            return BAD;
        }
        if (row == null) {
            return NOT;
        }
        int was = row[l];
        row[l] = part;
        return was;
    }

    int leastChanges;
    int[] leastChanged;

    void mendFrom(int l, int[] r, int changes) {
        if (changes >= leastChanges) {
            return;
        }
        if (l == lodgers.size()) {
            leastChanges = changes;
            leastChanged = r.clone();
            return;
        }
        for (r[l] = 0; r[l] < 8; r[l]++) {
            if (good(lodgers, beds, r, l + 1)) {
                mendFrom(l + 1, r, changes + (r[l] == row[l] ? 0 : 1));
            }
        }
    }

    int mended(int i) {
        if (i < -1 || i >= lodgers.size()) {
            return BAD;
        }
        if (row == null) {
            return NOT;
        }
        leastChanges = 99;
        leastChanged = null;
        mendFrom(0, new int[7], 0);
        return leastChanged == null ? NONE : i == -1 ? leastChanges : leastChanged[i];
    }

    /** The row that comes of rents; null if somebody may begin nowhere. */
    int[] rowOfRents(int[] rent) {
        int[] r = new int[7];
        for (int l = 0; l < lodgers.size(); l++) {
            int best = -1, bestCost = 0;
            for (int p = 0; p < 8; p++) {
                if (lodgers.get(l).may(p)) {
                    boolean[] in = lodgers.get(l).sleep(p);
                    int cost = 0;
                    for (int q = 0; q < 8; q++) {
                        cost += in[q] ? rent[q] : 0;
                    }
                    if (best < 0 || cost < bestCost) {
                        best = p;
                        bestCost = cost;
                    }
                }
            }
            if (best < 0) {
                return null;
            }
            r[l] = best;
        }
        return r;
    }

    int rents(int part) {
        if (part < -1 || part > 7) {
            return BAD;
        }
        int[] best = null;
        int bestSum = 99;
        for (int code = 0; code < 6561; code++) {
            int[] rent = new int[8];
            int sum = 0;
            for (int p = 7, left = code; p >= 0; p--, left /= 3) {
                rent[p] = left % 3;
                sum += rent[p];
            }
            if (sum < bestSum) {
                int[] r = rowOfRents(rent);
                if (r == null) {
                    return NONE;
                }
                if (good(lodgers, beds, r, lodgers.size())) {
                    best = rent;
                    bestSum = sum;
                }
            }
        }
        return best == null ? NONE : part == -1 ? bestSum : best[part];
    }

    /** bed[l][p], -1 where one is up; downs: who lies down, in their order, as { part, lodger, bed }. */
    int[][] inBed(List<int[]> downs) {
        int n = lodgers.size();
        int[][] bed = new int[n][8];
        for (int p = 0; p < 8; p++) {
            boolean[] used = new boolean[8];
            for (int l = 0; l < n; l++) {
                boolean sleeps = lodgers.get(l).sleep(row[l])[p];
                bed[l][p] = -1;
                if (sleeps && p > 0 && bed[l][p - 1] >= 0) {
                    bed[l][p] = bed[l][p - 1];
                    used[bed[l][p]] = true;
                }
            }
            for (int l = 0; l < n; l++) {
                if (lodgers.get(l).sleep(row[l])[p] && bed[l][p] < 0) {
                    int b = 0;
                    while (used[b]) {
                        b++;
                    }
                    used[b] = true;
                    bed[l][p] = b;
                    downs.add(new int[] {p, l, b});
                }
            }
        }
        return bed;
    }

    int bed(int l, int part) {
        if (!isLodger(l) || part < 0 || part > 7) {
            return BAD;
        }
        if (!rowGood()) {
            return NOT;
        }
        int b = inBed(new ArrayList<>())[l][part];
        return b < 0 ? NONE : b;
    }

    int linen() {
        if (!rowGood()) {
            return NOT;
        }
        List<int[]> downs = new ArrayList<>();
        inBed(downs);
        int changes = 0;
        for (int k = 0; k < downs.size(); k++) {
            for (int j = k - 1; j >= 0; j--) {
                if (downs.get(j)[2] == downs.get(k)[2]) {
                    changes += downs.get(j)[1] != downs.get(k)[1] ? 1 : 0;
                    break;
                }
            }
        }
        return changes;
    }

    int sickOf(int set, int d) {
        List<int[]> downs = new ArrayList<>();
        inBed(downs);
        int n = lodgers.size();
        int[] since = new int[n];
        Arrays.fill(since, Integer.MAX_VALUE);
        for (int l = 0; l < n; l++) {
            if ((set >> l & 1) == 1) {
                since[l] = 0;
            }
        }
        int[] last = new int[7];
        Arrays.fill(last, -1);
        for (int day = 1; day <= d; day++) {
            for (int[] down : downs) {
                int other = last[down[2]];
                boolean hadIt = since[down[1]] != Integer.MAX_VALUE;
                if (!hadIt && other >= 0 && other != down[1] && since[other] <= day && day - since[other] <= lasts) {
                    since[down[1]] = day;
                }
                last[down[2]] = down[1];
            }
        }
        int sick = 0;
        for (int l = 0; l < n; l++) {
            sick += since[l] <= d && d - since[l] <= lasts ? 1 << l : 0;
        }
        return sick;
    }

    boolean badSick(int set, int d) {
        return set < 0 || set >> lodgers.size() != 0 || d < 1 || d > 30;
    }

    int sick(int set, int d) {
        return badSick(set, d) ? BAD : rowGood() ? sickOf(set, d) : NOT;
    }

    int brought(int set, int d) {
        if (badSick(set, d)) {
            return BAD;
        }
        if (!rowGood()) {
            return NOT;
        }
        int who = 0;
        for (int l = 0; l < lodgers.size(); l++) {
            who += sickOf(1 << l, d) == set ? 1 << l : 0;
        }
        return who;
    }

    static State stateOf(List<Lodger> lodgers, int beds, int lasts, int[] row) {
        return new State(new ArrayList<>(lodgers), beds, lasts, row == null ? null : row.clone());
    }

    int image() {
        image = stateOf(lodgers, beds, lasts, row);
        return 1;
    }

    int restore() {
        if (image == null) {
            return NONE;
        }
        State back = stateOf(image.lodgers(), image.beds(), image.lasts(), image.row());
        lodgers = back.lodgers();
        beds = back.beds();
        lasts = back.lasts();
        row = back.row();
        return 1;
    }

    static int sizeOf(Object sheet) {
        return java.lang.reflect.Array.getLength(sheet);
    }

    static int laneOf(Object sheet) {
        return sheet instanceof byte[] ? 0 : sheet instanceof int[] ? 1 : 2;
    }

    int refused(int sheet, int lane, int i, int n) {
        if (sheet < 0 || sheet > 3 || lane < 0 || lane > 2) {
            return BAD;
        }
        if (sheets[sheet] == null) {
            return NULL;
        }
        if (laneOf(sheets[sheet]) != lane) {
            return CAST;
        }
        return i < 0 || (long) i + n > sizeOf(sheets[sheet]) ? INDEX : 0;
    }

    long[] items(int sheet, int i, int n) {
        long[] items = new long[n];
        for (int k = 0; k < n; k++) {
            items[k] = java.lang.reflect.Array.getLong(sheets[sheet], i + k);
        }
        return items;
    }

    void set(int sheet, int i, long v) {
        Object s = sheets[sheet];
        if (s instanceof byte[] b) {
            b[i] = (byte) v;
        } else if (s instanceof int[] a) {
            a[i] = (int) v;
        } else if (s instanceof long[] a) {
            a[i] = v;
        }
    }

    int lay(int sheet, int lane, int i) {
        int n = lodgers.size();
        int no = refused(sheet, lane, i, n);
        if (no != 0) {
            return no;
        }
        long[] items = items(sheet, i, n);
        if (n == 0 || Arrays.stream(items).anyMatch(v -> v < 0 || v > 7)) {
            return NOT;
        }
        row = new int[7];
        for (int l = 0; l < n; l++) {
            row[l] = (int) items[l];
        }
        return rowGood() ? 1 : 0;
    }

    int judged(int sheet, int lane, int i) {
        int n = lodgers.size();
        int no = refused(sheet, lane, i, n);
        if (no != 0) {
            return no;
        }
        long[] items = items(sheet, i, n);
        int[] r = new int[7];
        for (int l = 0; l < n; l++) {
            r[l] = items[l] < 0 || items[l] > 7 ? 99 : (int) items[l];
            if (!good(lodgers, beds, r, l + 1)) {
                return l;
            }
        }
        return NONE;
    }

    int clears(int sheet, int lane, int i) {
        int no = refused(sheet, lane, i, 8);
        if (no != 0) {
            return no;
        }
        long[] items = items(sheet, i, 8);
        if (Arrays.stream(items).anyMatch(v -> v < 0 || v > 2)) {
            return NOT;
        }
        int[] r = rowOfRents(Arrays.stream(items).mapToInt(v -> (int) v).toArray());
        return r == null ? NOT : good(lodgers, beds, r, lodgers.size()) ? 1 : 0;
    }

    int sheet(int sheet, int lane, int n) {
        if (sheet < 0 || sheet > 3 || lane < 0 || lane > 2 || n > 16) {
            return BAD;
        }
        if (n < 0) {
            return SIZE;
        }
        sheets[sheet] = lane == 0 ? new byte[n] : lane == 1 ? new int[n] : new long[n];
        return n;
    }

    int drop(int sheet) {
        if (sheet < 0 || sheet > 3) {
            return BAD;
        }
        if (sheets[sheet] == null) {
            return NULL;
        }
        int n = sizeOf(sheets[sheet]);
        sheets[sheet] = null;
        return n;
    }

    int item(int sheet, int lane, int i, long v) {
        int no = refused(sheet, lane, i, 1);
        if (no != 0) {
            return no;
        }
        set(sheet, i, v);
        return 1;
    }

    int film(int sheet, int lane, int i) {
        int no = refused(sheet, lane, i, lodgers.size());
        if (no == BAD) {
            return BAD;
        }
        if (row == null) {
            return NOT;
        }
        if (no != 0) {
            return no;
        }
        for (int l = 0; l < lodgers.size(); l++) {
            set(sheet, i + l, row[l]);
        }
        return lodgers.size();
    }

    int copy(int from, int i, int to, int j, int n) {
        if (from < 0 || from > 3 || to < 0 || to > 3) {
            return BAD;
        }
        if (sheets[from] == null || sheets[to] == null) {
            return NULL;
        }
        if (laneOf(sheets[from]) != laneOf(sheets[to])) {
            return CAST;
        }
        if (i < 0 || j < 0 || n < 0 || (long) i + n > sizeOf(sheets[from]) || (long) j + n > sizeOf(sheets[to])) {
            return INDEX;
        }
        long[] items = items(from, i, n);
        for (int k = 0; k < n; k++) {
            set(to, j + k, items[k]);
        }
        return n;
    }
}
