/** A lodging with fewer beds than lodgers, who sleep by parts of the day. See the document for what is promised. */
public final class SixBeds {
    public static final int BAD = -1, NOT = -2, FULL = -3, NONE = -4, NULL = -11, CAST = -12, INDEX = -13, SIZE = -14;

    private static final int PARTS = 8, ALL_PARTS = 255;
    private static final int MOST_LODGERS = 7, MOST_BEDS = 7, MOST_NEED = 4, MOST_RENT = 2, NAP_BEHIND = 4;
    private static final int MOST_LASTS = 9, MOST_DAYS = 30, MOST_COUNTED = 9999;
    private static final int PLAIN = 0, SIESTA = 1, LIGHT = 2, SNORER = 3;
    private static final int SHEETS = 4, MOST_ITEMS = 16, BYTES = 0, INTS = 1, LONGS = 2;
    private static final int FAULT = -20;
    private static final int FINE = 0;
    private static final int NOWHERE = -1, NOBODY = -1;
    private static final long NO_ROOM = -1L;

    private final House house = new House();
    private final House kept = new House();
    private boolean imaged = false;
    private final Stays stays = new Stays(house);
    private final Search search = new Search(house, stays);
    private final Market market = new Market(house, stays);
    private final Night night = new Night(house);
    private final Tape tape = new Tape();
    private final Sheet[] sheets = new Sheet[SHEETS];
    private final int[] taken = new int[PARTS];

    public SixBeds() {
        for (int s = 0; s < SHEETS; s++) {
            sheets[s] = new Sheet();
        }
    }

    // ---- 1 lodgers

    public int lodger(int kind, int need, int work) {
        if (kind < PLAIN || kind > SNORER || need < 1 || need > MOST_NEED || !isSetOfParts(work)) {
            return BAD;
        }
        if (house.count >= MOST_LODGERS) {
            return FULL;
        }
        house.admit(kind, need, work);
        stays.refresh();
        return house.count - 1;
    }

    public int leave(int lodger) {
        if (!house.has(lodger)) {
            return BAD;
        }
        house.dismiss(lodger);
        stays.refresh();
        return house.count;
    }

    public int told(int lodger, int what) {
        if (!house.has(lodger)) {
            return BAD;
        }
        switch (what) {
            case 0: return house.kinds[lodger];
            case 1: return house.needs[lodger];
            case 2: return house.works[lodger];
            case 3: return stays.mays[lodger];
            case 4: return house.rowTold ? house.row[lodger] : NONE;
            default: return BAD;
        }
    }

    public int work(int lodger, int set) {
        if (!house.has(lodger) || !isSetOfParts(set)) {
            return BAD;
        }
        int was = house.works[lodger];
        house.employ(lodger, set);
        stays.refresh();
        return was;
    }

    public int sleeps(int lodger, int part) {
        if (!house.has(lodger) || !isPart(part)) {
            return BAD;
        }
        return house.sleepSet(lodger, part);
    }

    public int beds(int v) {
        if (v < 1 || v > MOST_BEDS) {
            return BAD;
        }
        int was = house.beds;
        house.furnish(v);
        return was;
    }

    public int lasts(int v) {
        if (v < 1 || v > MOST_LASTS) {
            return BAD;
        }
        int was = house.lasts;
        house.lasts = v;
        return was;
    }

    public int type(long w, int n) {
        if (!Tape.canHold(w, n)) {
            return BAD;
        }
        if (!tape.hasRoom(n)) {
            return FULL;
        }
        tape.append(w, n);
        return tape.length;
    }

    public int lodging() {
        boolean understood = tape.parses();
        int fault = FAULT - tape.place;
        tape.length = 0;
        if (!understood) {
            return fault;
        }
        house.empty();
        for (int k = 0; k < tape.found; k++) {
            house.admit(tape.kinds[k], tape.needs[k], tape.works[k]);
        }
        stays.refresh();
        return house.count;
    }

    public int count(int what) {
        switch (what) {
            case 0: return house.count;
            case 1: return house.beds;
            case 2: return house.needOfAll();
            case 3: return house.rowTold ? 1 : 0;
            case 4: return rowIsGood() ? 1 : 0;
            default: return BAD;
        }
    }

    // ---- 2 rows

    public int first(int lodger) {
        if (!house.has(lodger)) {
            return BAD;
        }
        return search.knowsFirst() ? search.firstRow[lodger] : NONE;
    }

    public int ways() {
        return search.countGood();
    }

    public int fewest() {
        return search.fewestBeds();
    }

    public int take() {
        if (!search.knowsFirst()) {
            return NONE;
        }
        house.tellRow(search.firstRow);
        return house.count;
    }

    public int move(int lodger, int part) {
        if (!house.has(lodger) || !isPart(part)) {
            return BAD;
        }
        if (!house.rowTold) {
            return NOT;
        }
        int was = house.row[lodger];
        house.shift(lodger, part);
        return was;
    }

    public int mended(int i) {
        if (i != -1 && !house.has(i)) {
            return BAD;
        }
        if (!house.rowTold) {
            return NOT;
        }
        if (!search.knowsFirst() || !search.knowsMended()) {
            return NONE;
        }
        return i == -1 ? search.mendedChanges : search.mendedRow[i];
    }

    public int rents(int part) {
        if (part != -1 && !isPart(part)) {
            return BAD;
        }
        // Rents that clear make a good row: without one there are none to look for.
        if (!search.knowsFirst() || !market.knowsLeast()) {
            return NONE;
        }
        return part == -1 ? market.leastSum : market.rents[part];
    }

    // ---- 3 beds, colds

    public int bed(int lodger, int part) {
        if (!house.has(lodger) || !isPart(part)) {
            return BAD;
        }
        if (!rowIsGood()) {
            return NOT;
        }
        int bed = night.bedOf(lodger, part);
        return bed == NOWHERE ? NONE : bed;
    }

    public int linen() {
        return rowIsGood() ? night.linenChanges() : NOT;
    }

    public int sick(int set, int d) {
        if (!house.isSetOfLodgers(set) || !isDay(d)) {
            return BAD;
        }
        return rowIsGood() ? night.sickAfter(set, d) : NOT;
    }

    public int brought(int set, int d) {
        if (!house.isSetOfLodgers(set) || !isDay(d)) {
            return BAD;
        }
        return rowIsGood() ? night.bringersOf(set, d) : NOT;
    }

    public int image() {
        kept.become(house);
        imaged = true;
        return 1;
    }

    public int restore() {
        if (!imaged) {
            return NONE;
        }
        house.become(kept);
        stays.refresh();
        return 1;
    }

    // ---- 4 sheets 0 .. 3: nothing (at first), or a row of a LANE: 0 bytes, 1 ints, 2 longs (all with a sign), of 0 to 16 items

    public int lay(int sheet, int lane, int i) {
        int refusal = refusalOfItems(sheet, lane, i, house.count);
        if (refusal != FINE) {
            return refusal;
        }
        if (house.count == 0 || !takeItems(sheet, i, house.count, PARTS - 1)) {
            return NOT;
        }
        house.tellRow(taken);
        return rowIsGood() ? 1 : 0;
    }

    public int judged(int sheet, int lane, int i) {
        int refusal = refusalOfItems(sheet, lane, i, house.count);
        if (refusal != FINE) {
            return refusal;
        }
        takeItems(sheet, i, house.count, PARTS - 1);
        int spoiler = stays.firstSpoiler(taken);
        return spoiler == NOBODY ? NONE : spoiler;
    }

    public int clears(int sheet, int lane, int i) {
        int refusal = refusalOfItems(sheet, lane, i, PARTS);
        if (refusal != FINE) {
            return refusal;
        }
        if (!takeItems(sheet, i, PARTS, MOST_RENT) || !stays.allMayBegin()) {
            return NOT;
        }
        return market.areCleared(taken) ? 1 : 0;
    }

    public int sheet(int sheet, int lane, int n) {
        if (isBadSheet(sheet) || isBadLane(lane) || n > MOST_ITEMS) {
            return BAD;
        }
        if (n < 0) {
            return SIZE;
        }
        sheets[sheet].begin(lane, n);
        return n;
    }

    public int drop(int sheet) {
        if (isBadSheet(sheet)) {
            return BAD;
        }
        Sheet dropped = sheets[sheet];
        if (dropped.missing) {
            return NULL;
        }
        dropped.missing = true;
        return dropped.size;
    }

    public int item(int sheet, int lane, int i, long v) {
        int refusal = refusalOfItems(sheet, lane, i, 1);
        if (refusal != FINE) {
            return refusal;
        }
        sheets[sheet].put(i, v);
        return 1;
    }

    public int film(int sheet, int lane, int i) {
        if (isBadSheet(sheet) || isBadLane(lane)) {
            return BAD;
        }
        if (!house.rowTold) {
            return NOT;
        }
        int refusal = refusalOfItems(sheet, lane, i, house.count);
        if (refusal != FINE) {
            return refusal;
        }
        for (int lodger = 0; lodger < house.count; lodger++) {
            sheets[sheet].put(i + lodger, house.row[lodger]);
        }
        return house.count;
    }

    public int copy(int from, int i, int to, int j, int n) {
        if (isBadSheet(from) || isBadSheet(to)) {
            return BAD;
        }
        Sheet source = sheets[from];
        Sheet target = sheets[to];
        if (source.missing || target.missing) {
            return NULL;
        }
        if (source.lane != target.lane) {
            return CAST;
        }
        if (!source.reaches(i, n) || !target.reaches(j, n)) {
            return INDEX;
        }
        System.arraycopy(source.items, i, target.items, j, n);
        return n;
    }

    // ---- what the calls share

    private boolean rowIsGood() {
        return house.rowTold && stays.firstSpoiler(house.row) == NOBODY;
    }

    private int refusalOfItems(int sheet, int lane, int i, int n) {
        if (isBadSheet(sheet) || isBadLane(lane)) {
            return BAD;
        }
        Sheet asked = sheets[sheet];
        if (asked.missing) {
            return NULL;
        }
        if (asked.lane != lane) {
            return CAST;
        }
        return asked.reaches(i, n) ? FINE : INDEX;
    }

    /** Whether all n items are 0 .. most; one that is not is taken as NOWHERE, which no row and no rents can hold. */
    private boolean takeItems(int sheet, int i, int n, int most) {
        boolean allFit = true;
        for (int k = 0; k < n; k++) {
            long item = sheets[sheet].items[i + k];
            boolean fits = item >= 0 && item <= most;
            taken[k] = fits ? (int) item : NOWHERE;
            allFit = allFit && fits;
        }
        return allFit;
    }

    private static boolean isPart(int part) {
        return part >= 0 && part < PARTS;
    }

    private static boolean isSetOfParts(int set) {
        return set >= 0 && set <= ALL_PARTS;
    }

    private static boolean isDay(int d) {
        return d >= 1 && d <= MOST_DAYS;
    }

    private static boolean isBadSheet(int sheet) {
        return sheet < 0 || sheet >= SHEETS;
    }

    private static boolean isBadLane(int lane) {
        return lane < BYTES || lane > LONGS;
    }

    private static boolean holds(int set, int member) {
        return (set >> member & 1) != 0;
    }

    /** Who lodges here, and the row that is told: all that an image keeps. */
    private static final class House {
        final int[] kinds = new int[MOST_LODGERS];
        final int[] needs = new int[MOST_LODGERS];
        final int[] works = new int[MOST_LODGERS];
        final int[] row = new int[MOST_LODGERS];
        int count = 0;
        int beds = 6;
        int lasts = 7;
        boolean rowTold = false;
        /** Both only grow, so that who remembers one of them knows whether an answer found then still holds. */
        int age = 0;
        int ageOfLodgers = 0;

        boolean has(int lodger) {
            return lodger >= 0 && lodger < count;
        }

        boolean isSetOfLodgers(int set) {
            return set >= 0 && set < 1 << count;
        }

        int needOfAll() {
            int sum = 0;
            for (int lodger = 0; lodger < count; lodger++) {
                sum += needs[lodger];
            }
            return sum;
        }

        int sleepSet(int lodger, int part) {
            boolean naps = kinds[lodger] == SIESTA && needs[lodger] > 1;
            int stretch = naps ? needs[lodger] - 1 : needs[lodger];
            int set = ((1 << stretch) - 1) | (naps ? 1 << NAP_BEHIND : 0);
            int turned = set << part;
            return (turned | turned >> PARTS) & ALL_PARTS;
        }

        void admit(int kind, int need, int work) {
            if (count >= MOST_LODGERS) {
                return;
            }
            kinds[count] = kind;
            needs[count] = need;
            works[count] = work;
            count++;
            rowTold = false;
            lodgersChanged();
        }

        void dismiss(int lodger) {
            for (int k = lodger; k + 1 < count; k++) {
                kinds[k] = kinds[k + 1];
                needs[k] = needs[k + 1];
                works[k] = works[k + 1];
            }
            count--;
            rowTold = false;
            lodgersChanged();
        }

        void empty() {
            count = 0;
            rowTold = false;
            lodgersChanged();
        }

        void employ(int lodger, int set) {
            works[lodger] = set;
            lodgersChanged();
        }

        void furnish(int howMany) {
            beds = howMany;
            lodgersChanged();
        }

        void tellRow(int[] begins) {
            System.arraycopy(begins, 0, row, 0, count);
            rowTold = true;
            age++;
        }

        void shift(int lodger, int part) {
            row[lodger] = part;
            age++;
        }

        void become(House other) {
            System.arraycopy(other.kinds, 0, kinds, 0, MOST_LODGERS);
            System.arraycopy(other.needs, 0, needs, 0, MOST_LODGERS);
            System.arraycopy(other.works, 0, works, 0, MOST_LODGERS);
            System.arraycopy(other.row, 0, row, 0, MOST_LODGERS);
            count = other.count;
            beds = other.beds;
            lasts = other.lasts;
            rowTold = other.rowTold;
            lodgersChanged();
        }

        private void lodgersChanged() {
            age++;
            ageOfLodgers = age;
        }
    }

    /**
     * What each lodger who begins with each part asks of the others.
     *
     * A crowd is who sleeps when, in one long, so that a search can pass it on and needs nothing undone: four bits for
     * each part count who sleeps there, beginning with 7 less the beds so that one too many sets the highest of the
     * four; above them stand the parts in which light ones sleep, then those in which snorers do.
     */
    private static final class Stays {
        private static final long ONE_EACH = 0x11111111L, TOO_MANY = 0x88888888L;
        private static final int LIGHT_AT = 32, SNORER_AT = 40;

        private final House house;
        /** The parts with which each lodger may begin. */
        final int[] mays = new int[MOST_LODGERS];
        private final long[] loads = new long[MOST_LODGERS * PARTS];
        private final long[] marks = new long[MOST_LODGERS * PARTS];
        private final long[] clashes = new long[MOST_LODGERS * PARTS];

        Stays(House house) {
            this.house = house;
        }

        boolean allMayBegin() {
            for (int lodger = 0; lodger < house.count; lodger++) {
                if (mays[lodger] == 0) {
                    return false;
                }
            }
            return true;
        }

        /** The first lodger by whom, with those ahead, a row is not good. */
        int firstSpoiler(int[] row) {
            long crowd = nobodyIn(house.beds);
            for (int lodger = 0; lodger < house.count; lodger++) {
                int part = row[lodger];
                if (!isPart(part) || !holds(mays[lodger], part)) {
                    return lodger;
                }
                crowd = joined(crowd, lodger, part);
                if (crowd == NO_ROOM) {
                    return lodger;
                }
            }
            return NOBODY;
        }

        static long nobodyIn(int beds) {
            return ONE_EACH * (MOST_BEDS - beds);
        }

        /** The crowd with a lodger who begins with a part; NO_ROOM if that one can't join it. */
        long joined(long crowd, int lodger, int part) {
            int at = lodger * PARTS + part;
            long fuller = crowd + loads[at];
            boolean fits = (crowd & clashes[at]) == 0 && (fuller & TOO_MANY) == 0;
            return fits ? fuller | marks[at] : NO_ROOM;
        }

        /** To be called as lodgers come, go or get other work. */
        void refresh() {
            for (int lodger = 0; lodger < house.count; lodger++) {
                mays[lodger] = 0;
                for (int part = 0; part < PARTS; part++) {
                    note(lodger, part, house.sleepSet(lodger, part));
                }
            }
        }

        private void note(int lodger, int part, int set) {
            int at = lodger * PARTS + part;
            long light = (long) set << LIGHT_AT;
            long snoring = (long) set << SNORER_AT;
            int kind = house.kinds[lodger];
            if ((set & house.works[lodger]) == 0) {
                mays[lodger] |= 1 << part;
            }
            loads[at] = oneInEach(set);
            marks[at] = kind == LIGHT ? light : kind == SNORER ? snoring : 0;
            clashes[at] = kind == LIGHT ? snoring : kind == SNORER ? light : 0;
        }

        private static long oneInEach(int set) {
            long load = 0;
            for (int part = 0; part < PARTS; part++) {
                load |= holds(set, part) ? 1L << 4 * part : 0L;
            }
            return load;
        }
    }

    /** Looks for good rows. */
    private static final class Search {
        private final House house;
        private final Stays stays;
        /** The parts that each lodger may begin with in this search. */
        private final int[] open = new int[MOST_LODGERS];
        private final int[] order = new int[MOST_LODGERS];
        private final int[] haste = new int[MOST_LODGERS];
        /** How many of those from a place of the order on can't begin as told. */
        private final int[] sureChanges = new int[MOST_LODGERS + 1];
        private final int[] found = new int[MOST_LODGERS];

        final int[] firstRow = new int[MOST_LODGERS];
        private boolean firstStands = false;
        private int firstAge = -1;

        final int[] mendedRow = new int[MOST_LODGERS];
        int mendedChanges = 0;
        private boolean mendedStands = false;
        private int mendedAge = -1;

        Search(House house, Stays stays) {
            this.house = house;
            this.stays = stays;
        }

        boolean knowsFirst() {
            if (firstAge != house.ageOfLodgers) {
                firstStands = findFirst(house.count, firstRow);
                firstAge = house.ageOfLodgers;
            }
            return firstStands;
        }

        boolean knowsMended() {
            if (mendedAge != house.age) {
                mendedStands = false;
                for (int changes = 0; changes <= house.count && !mendedStands; changes++) {
                    mendedStands = findFirst(changes, mendedRow);
                    mendedChanges = changes;
                }
                mendedAge = house.age;
            }
            return mendedStands;
        }

        int countGood() {
            openAll();
            return hasRoomForAll(house.beds) ? countFrom(this, 0, Stays.nobodyIn(house.beds), MOST_COUNTED) : 0;
        }

        int fewestBeds() {
            openAll();
            // With a bed for each only work and snorers can stand in the way: what fails here fails by all.
            if (!exists(MOST_BEDS, house.count)) {
                return NONE;
            }
            for (int beds = 1; beds < MOST_BEDS; beds++) {
                if (exists(beds, house.count)) {
                    return beds;
                }
            }
            return MOST_BEDS;
        }

        /** The first good row by which at most so many begin otherwise than told. */
        private boolean findFirst(int changes, int[] row) {
            openAll();
            if (!exists(house.beds, changes)) {
                return false;
            }
            for (int lodger = 0; lodger < house.count; lodger++) {
                open[lodger] = 1 << earliest(lodger, changes);
            }
            System.arraycopy(found, 0, row, 0, house.count);
            return true;
        }

        /** The row that was found last shows one part that will do, so only those ahead of it are tried. */
        private int earliest(int lodger, int changes) {
            int mays = open[lodger];
            int known = found[lodger];
            for (int part = 0; part < known; part++) {
                if (holds(mays, part)) {
                    open[lodger] = 1 << part;
                    sortLodgers();
                    if (exists(house.beds, changes)) {
                        return part;
                    }
                }
            }
            return known;
        }

        private boolean exists(int beds, int changes) {
            return hasRoomForAll(beds) && fillFrom(this, 0, Stays.nobodyIn(beds), changes);
        }

        private boolean hasRoomForAll(int beds) {
            return house.needOfAll() <= beds * PARTS;
        }

        private void openAll() {
            for (int lodger = 0; lodger < house.count; lodger++) {
                open[lodger] = stays.mays[lodger];
            }
            sortLodgers();
        }

        /** Those whom others shut out most easily come first: so a search in vain ends early. */
        private void sortLodgers() {
            for (int lodger = 0; lodger < house.count; lodger++) {
                haste[lodger] = hasteOf(lodger);
                int place = lodger;
                while (place > 0 && haste[order[place - 1]] > haste[lodger]) {
                    order[place] = order[place - 1];
                    place--;
                }
                order[place] = lodger;
            }
            sureChanges[house.count] = 0;
            for (int place = house.count - 1; place >= 0; place--) {
                int lodger = order[place];
                sureChanges[place] = sureChanges[place + 1] + (holds(open[lodger], house.row[lodger]) ? 0 : 1);
            }
        }

        /** Least for who has one choice, then for light ones and snorers, the rarer of both first, then by choices. */
        private int hasteOf(int lodger) {
            int choices = Integer.bitCount(open[lodger]);
            if (choices <= 1) {
                return 0;
            }
            int kind = house.kinds[lodger];
            int rank = kind == LIGHT || kind == SNORER ? howMany(kind) : MOST_LODGERS + 1;
            return rank * 100 + choices * 10 - house.needs[lodger];
        }

        private int howMany(int kind) {
            int sum = 0;
            for (int lodger = 0; lodger < house.count; lodger++) {
                sum += house.kinds[lodger] == kind ? 1 : 0;
            }
            return sum;
        }

        private static boolean fillFrom(Search s, int place, long crowd, int changes) {
            if (place >= s.house.count) {
                return true;
            }
            if (changes < s.sureChanges[place]) {
                return false;
            }
            int lodger = s.order[place];
            for (int part = 0; part < PARTS; part++) {
                int left = part == s.house.row[lodger] ? changes : changes - 1;
                if (left < 0 || !holds(s.open[lodger], part)) {
                    continue;
                }
                long next = s.stays.joined(crowd, lodger, part);
                if (next != NO_ROOM && fillFrom(s, place + 1, next, left)) {
                    s.found[lodger] = part;
                    return true;
                }
            }
            return false;
        }

        private static int countFrom(Search s, int place, long crowd, int most) {
            if (place >= s.house.count) {
                return 1;
            }
            int lodger = s.order[place];
            int sum = 0;
            for (int part = 0; part < PARTS && sum < most; part++) {
                if (holds(s.open[lodger], part)) {
                    long next = s.stays.joined(crowd, lodger, part);
                    sum += next == NO_ROOM ? 0 : countFrom(s, place + 1, next, most - sum);
                }
            }
            return sum;
        }
    }

    /** Rents by parts of the day, and what comes of them if all look to themselves. */
    private static final class Market {
        private static final int BITS = 8, ONE_COST = 255;

        private final House house;
        private final Stays stays;
        /** By need, then by need of those who nap: the eight costs of beginning with each part, a byte each. */
        private final long[] costs = new long[2 * MOST_NEED + 1];

        final int[] rents = new int[PARTS];
        int leastSum = 0;
        private boolean leastStand = false;
        private int age = -1;

        Market(House house, Stays stays) {
            this.house = house;
            this.stays = stays;
        }

        boolean knowsLeast() {
            if (age != house.ageOfLodgers) {
                leastStand = stays.allMayBegin() && findLeast();
                age = house.ageOfLodgers;
            }
            return leastStand;
        }

        boolean areCleared(int[] asked) {
            reckonCosts(asked);
            long crowd = Stays.nobodyIn(house.beds);
            for (int lodger = 0; lodger < house.count; lodger++) {
                int part = cheapest(lodger);
                crowd = part == NOWHERE ? NO_ROOM : stays.joined(crowd, lodger, part);
                if (crowd == NO_ROOM) {
                    return false;
                }
            }
            return true;
        }

        private boolean findLeast() {
            for (int sum = 0; sum <= PARTS * MOST_RENT; sum++) {
                if (clearFrom(this, 0, sum)) {
                    leastSum = sum;
                    return true;
                }
            }
            return false;
        }

        /** Tries all rents of the parts from one on that make up a sum, in the order of rows. */
        private static boolean clearFrom(Market m, int part, int sum) {
            if (part >= PARTS) {
                return m.areCleared(m.rents);
            }
            int mostBehind = (PARTS - 1 - part) * MOST_RENT;
            for (int rent = 0; rent <= MOST_RENT; rent++) {
                int left = sum - rent;
                if (left >= 0 && left <= mostBehind) {
                    m.rents[part] = rent;
                    if (clearFrom(m, part + 1, left)) {
                        return true;
                    }
                }
            }
            return false;
        }

        private void reckonCosts(int[] asked) {
            long each = 0;
            for (int part = 0; part < PARTS; part++) {
                each |= (long) asked[part] << BITS * part;
            }
            costs[0] = 0;
            for (int need = 1; need <= MOST_NEED; need++) {
                costs[need] = costs[need - 1] + later(each, need - 1);
            }
            costs[MOST_NEED + 1] = each;
            for (int need = 2; need <= MOST_NEED; need++) {
                costs[MOST_NEED + need] = costs[need - 1] + later(each, NAP_BEHIND);
            }
        }

        /** What stood so many parts behind each part stands at it: eight bytes turned. */
        private static long later(long each, int parts) {
            int bits = BITS * parts;
            return bits == 0 ? each : (each >>> bits) | (each << (PARTS * BITS - bits));
        }

        private int cheapest(int lodger) {
            long cost = costs[house.needs[lodger] + (house.kinds[lodger] == SIESTA ? MOST_NEED : 0)];
            int mays = stays.mays[lodger];
            int least = ONE_COST;
            int best = NOWHERE;
            for (int part = 0; part < PARTS; part++) {
                int one = (int) (cost >>> BITS * part) & ONE_COST;
                if (one < least && holds(mays, part)) {
                    least = one;
                    best = part;
                }
            }
            return best;
        }
    }

    /** Who lies where by a good row, and what goes from bed to bed. */
    private static final class Night {
        private static final int NEVER = -1;

        private final House house;
        private final int[] bedsOf = new int[MOST_LODGERS * PARTS];
        /** Who lies down where, in the order of a day. */
        private final int[] downWho = new int[MOST_LODGERS * PARTS];
        private final int[] downBed = new int[MOST_LODGERS * PARTS];
        private int downs = 0;
        private int age = -1;
        private final int[] layLast = new int[MOST_BEDS];
        private final int[] gotOn = new int[MOST_LODGERS];

        Night(House house) {
            this.house = house;
        }

        int bedOf(int lodger, int part) {
            settle();
            return bedsOf[lodger * PARTS + part];
        }

        int linenChanges() {
            settle();
            stripBeds();
            int changes = 0;
            for (int k = 0; k < downs; k++) {
                int ahead = layLast[downBed[k]];
                changes += ahead != NOBODY && ahead != downWho[k] ? 1 : 0;
                layLast[downBed[k]] = downWho[k];
            }
            return changes;
        }

        int sickAfter(int set, int days) {
            settle();
            stripBeds();
            for (int lodger = 0; lodger < house.count; lodger++) {
                gotOn[lodger] = holds(set, lodger) ? 0 : NEVER;
            }
            for (int day = 1; day <= days; day++) {
                spread(day);
            }
            int sick = 0;
            for (int lodger = 0; lodger < house.count; lodger++) {
                sick |= hasIt(lodger, days) ? 1 << lodger : 0;
            }
            return sick;
        }

        int bringersOf(int set, int days) {
            int bringers = 0;
            for (int lodger = 0; lodger < house.count; lodger++) {
                bringers |= sickAfter(1 << lodger, days) == set ? 1 << lodger : 0;
            }
            return bringers;
        }

        private void spread(int day) {
            for (int k = 0; k < downs; k++) {
                int who = downWho[k];
                int ahead = layLast[downBed[k]];
                if (gotOn[who] == NEVER && ahead != NOBODY && hasIt(ahead, day)) {
                    gotOn[who] = day;
                }
                layLast[downBed[k]] = who;
            }
        }

        private boolean hasIt(int lodger, int day) {
            return gotOn[lodger] != NEVER && day <= gotOn[lodger] + house.lasts;
        }

        private void stripBeds() {
            for (int bed = 0; bed < MOST_BEDS; bed++) {
                layLast[bed] = NOBODY;
            }
        }

        private void settle() {
            if (age == house.age) {
                return;
            }
            downs = 0;
            for (int part = 0; part < PARTS; part++) {
                int occupied = keepBeds(part);
                layDown(part, occupied);
            }
            age = house.age;
        }

        /** Who sleeps on stays; everybody else is up until laid down. */
        private int keepBeds(int part) {
            int occupied = 0;
            for (int lodger = 0; lodger < house.count; lodger++) {
                int at = lodger * PARTS + part;
                int ahead = part == 0 ? NOWHERE : bedsOf[at - 1];
                bedsOf[at] = sleepsIn(lodger, part) ? ahead : NOWHERE;
                occupied |= bedsOf[at] == NOWHERE ? 0 : 1 << bedsOf[at];
            }
            return occupied;
        }

        private void layDown(int part, int occupied) {
            int bed = 0;
            for (int lodger = 0; lodger < house.count; lodger++) {
                int at = lodger * PARTS + part;
                if (bedsOf[at] != NOWHERE || !sleepsIn(lodger, part)) {
                    continue;
                }
                while (bed < MOST_BEDS - 1 && holds(occupied, bed)) {
                    bed++;
                }
                bedsOf[at] = bed;
                downWho[downs] = lodger;
                downBed[downs] = bed;
                downs++;
                occupied |= 1 << bed;
            }
        }

        private boolean sleepsIn(int lodger, int part) {
            return holds(house.sleepSet(lodger, house.row[lodger]), part);
        }
    }

    /** The tape, and the lodgers that it tells if it is a lodging. */
    private static final class Tape {
        private static final int MOST_BYTES = 100, MOST_TYPED = 8, BLANK = 32, LAST_SIGN = 126, END = -1, NO_KIND = -1;

        private final int[] bytes = new int[MOST_BYTES];
        int length = 0;

        int place = 0;
        int found = 0;
        final int[] kinds = new int[MOST_LODGERS];
        final int[] needs = new int[MOST_LODGERS];
        final int[] works = new int[MOST_LODGERS];

        static boolean canHold(long w, int n) {
            if (n < 1 || n > MOST_TYPED) {
                return false;
            }
            for (int k = 0; k < n; k++) {
                int one = byteAt(w, k);
                if (one < BLANK || one > LAST_SIGN) {
                    return false;
                }
            }
            return true;
        }

        boolean hasRoom(int n) {
            return n <= MOST_BYTES - length;
        }

        void append(long w, int n) {
            for (int k = n - 1; k >= 0 && length < MOST_BYTES; k--) {
                bytes[length] = byteAt(w, k);
                length++;
            }
        }

        /** Whether it is a lodging; if not, its place is the first that can't stand there. */
        boolean parses() {
            place = 0;
            for (int k = 0; k < MOST_LODGERS; k++) {
                if (!readLodger(k)) {
                    return false;
                }
                int next = peek();
                found = k + 1;
                if (next == END) {
                    return true;
                }
                if (next != ',' || found == MOST_LODGERS) {
                    return false;
                }
                place++;
            }
            return false;
        }

        private boolean readLodger(int k) {
            int kind = kindOf(peek());
            if (kind == NO_KIND) {
                return false;
            }
            place++;
            int need = peek() - '0';
            if (need < 1 || need > MOST_NEED) {
                return false;
            }
            place++;
            kinds[k] = kind;
            needs[k] = need;
            works[k] = 0;
            if (peek() != 'w') {
                return true;
            }
            place++;
            return readWork(k);
        }

        private boolean readWork(int k) {
            // One time more than there are parts: behind eight unlike digits a ninth can only be told twice.
            for (int digits = 0; digits <= PARTS; digits++) {
                int part = peek() - '0';
                if (!isPart(part)) {
                    return digits > 0;
                }
                if (holds(works[k], part)) {
                    return false;
                }
                works[k] |= 1 << part;
                place++;
            }
            return false;
        }

        /** The byte at the place, behind blanks, which count for nothing. */
        private int peek() {
            while (place < length && bytes[place] == BLANK) {
                place++;
            }
            return place < length ? bytes[place] : END;
        }

        private static int kindOf(int sign) {
            switch (sign) {
                case 'p': return PLAIN;
                case 's': return SIESTA;
                case 'l': return LIGHT;
                case 'n': return SNORER;
                default: return NO_KIND;
            }
        }

        private static int byteAt(long w, int k) {
            return (int) (w >>> 8 * k) & 255;
        }
    }

    /** A row of a lane that may be missing; its items are held as longs, cut to the lane as they come. */
    private static final class Sheet {
        final long[] items = new long[MOST_ITEMS];
        boolean missing = true;
        int lane = BYTES;
        int size = 0;

        void begin(int newLane, int newSize) {
            for (int k = 0; k < MOST_ITEMS; k++) {
                items[k] = 0;
            }
            missing = false;
            lane = newLane;
            size = newSize;
        }

        boolean reaches(int i, int n) {
            return i >= 0 && n >= 0 && n <= size && i <= size - n;
        }

        void put(int i, long v) {
            items[i] = lane == BYTES ? (byte) v : lane == INTS ? (int) v : v;
        }
    }
}
