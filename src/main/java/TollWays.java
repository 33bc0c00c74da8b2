import java.util.Arrays;

/**
 * Drivers of three classes who all start in town 0 and choose ways by cost and toll. The numbered
 * promises of DOC.md say what each call answers; README.md says how to use the class.
 */
public final class TollWays {
    public static final int NONE = -1, BAD = -2, STATE = -3, FULL = -4, OVER = -6;
    public static final long NO = Long.MIN_VALUE;

    private static final int NOTHING = -11, BEYOND = -13, BELOW = -14, UNLIKE = -16;
    private static final int FAULTY = -100;

    private static final int FEWEST_TOWNS = 2, MOST_TOWNS = 6;
    private static final int MOST_ROADS = 12;
    /** One road more than may be built: adding() thinks of a thirteenth. */
    private static final int ROOM_FOR_ROADS = MOST_ROADS + 1;
    /**
     * With d roads out of the first town, m roads make at most h(m) = d * (1 + h(m - d)) ways to
     * anywhere, for the best d; h(13) is 210, and the empty way is one row more.
     */
    private static final int MOST_ROWS = 211;
    private static final int CLASSES = 3, TRAITS = 4, MODES = 3, KINDS = 3;
    private static final int TO = 0, MANY = 1, TIME = 2, MONEY = 3;
    private static final int MOST_MANY = 12;
    private static final int MOST_DRIVERS = CLASSES * MOST_MANY;
    private static final int TOLLED = 1, MARGINAL = 2;
    private static final int PLAIN = 0, SLOPED = 1, KNEED = 2;
    private static final long MOST_BASE = 100_000_000_000_000_000L;
    private static final long MOST_SLOPE = 100_000_000_000_000L;
    private static final long MOST_TOLL = 1_000_000_000L;
    private static final int MOST_KNEE = 36;
    private static final int MOST_STEPS = 400;
    private static final int MOST_BYTES = 100;
    private static final int TRAYS = 3, MOST_PLACES = 20;
    private static final int LISTS = 4, MOST_LONGS = 24;
    private static final int[] LEAST_TRAIT = {1, 0, 1, 0};
    private static final int[] MOST_TRAIT = {5, 12, 9, 9};

    private final Net now = new Net();
    private final Net kept = new Net();
    private boolean isKept = false;
    private final Paths paths = new Paths();
    private boolean pathsAreFresh = false;
    private final Steady[] steadies = new Steady[MODES];
    private final boolean[] steadyIsFresh = new boolean[MODES];
    private final Cheapest cheapest = new Cheapest();
    private boolean cheapestIsFresh = false;
    private final Net thoughtNet = new Net();
    private final Paths thoughtPaths = new Paths();
    private final Steady thoughtSteady = new Steady();
    private final Tape tape = new Tape();
    private final Tray[] trays = new Tray[TRAYS];
    private final Row[] rows = new Row[LISTS];
    private final int[] toldLoads = new int[ROOM_FOR_ROADS];
    private final Sum sum = new Sum();

    public TollWays() {
        for (int mode = 0; mode < MODES; mode++) {
            steadies[mode] = new Steady();
        }
        for (int t = 0; t < TRAYS; t++) {
            trays[t] = new Tray();
        }
        for (int l = 0; l < LISTS; l++) {
            rows[l] = new Row();
        }
    }

    // ---- what is told

    public int towns(int n) {
        if (n < FEWEST_TOWNS || n > MOST_TOWNS) {
            return BAD;
        }
        int before = now.towns;
        now.towns = n;
        now.size = 0;
        changed();
        return before;
    }

    public int road(int from, int to, int kind, long base, long slope, long steep, int knee) {
        if (!now.joins(from, to) || !isKind(kind)) {
            return NONE;
        }
        boolean costsAreGood = isWithin(base, MOST_BASE) && isWithin(slope, MOST_SLOPE);
        if (!costsAreGood || !isWithin(steep, MOST_SLOPE) || !isWithin(knee, MOST_KNEE)) {
            return BAD;
        }
        if (now.size >= MOST_ROADS) {
            return FULL;
        }
        now.append(new Road(from, to, kind, base, slope, steep, knee));
        changed();
        return now.size - 1;
    }

    public int close(int road) {
        if (!now.hasRoad(road)) {
            return NONE;
        }
        now.drop(road);
        changed();
        return now.size;
    }

    public long toll(int road, long v) {
        if (!now.hasRoad(road)) {
            return NONE;
        }
        if (!isWithin(v, MOST_TOLL)) {
            return BAD;
        }
        long before = now.tolls[road];
        now.tolls[road] = v;
        changed();
        return before;
    }

    public long of(int road, int what) {
        if (!now.hasRoad(road)) {
            return NO;
        }
        Road asked = now.roads[road];
        switch (what) {
            case 0:
                return asked.from;
            case 1:
                return asked.to;
            case 2:
                return asked.kind;
            case 3:
                return asked.base;
            case 4:
                return asked.slope;
            case 5:
                return asked.steep;
            case 6:
                return asked.knee;
            case 7:
                return now.tolls[road];
            default:
                return NO;
        }
    }

    public long cost(int road, int x, int what) {
        if (!now.hasRoad(road) || !isLoad(x) || !isOneOf(what, 2)) {
            return NO;
        }
        return what == 0 ? now.roads[road].costAt(x) : now.roads[road].lossAt(x);
    }

    public int drivers(int cls, int what, int v) {
        if (!isOneOf(cls, CLASSES) || !isOneOf(what, TRAITS)) {
            return NONE;
        }
        if (v < LEAST_TRAIT[what] || v > MOST_TRAIT[what]) {
            return BAD;
        }
        int before = now.crowds[cls][what];
        now.crowds[cls][what] = v;
        changed();
        return before;
    }

    public int driversOf(int cls, int what) {
        if (!isOneOf(cls, CLASSES) || !isOneOf(what, TRAITS)) {
            return NONE;
        }
        return now.crowds[cls][what];
    }

    public int feed(int letter) {
        if (letter < 1 || letter > 127) {
            return BAD;
        }
        return tape.push(letter) ? tape.length : FULL;
    }

    public int clear() {
        int before = tape.length;
        tape.length = 0;
        return before;
    }

    public int roads() {
        // Read into a copy, for a text with a fault does nothing.
        thoughtNet.copyFrom(now);
        int answer = tape.readInto(thoughtNet);
        tape.length = 0;
        if (answer >= 0) {
            now.copyFrom(thoughtNet);
            changed();
        }
        return answer;
    }

    // ---- ways, steady loads

    public int ways(int cls) {
        if (!isOneOf(cls, CLASSES)) {
            return NONE;
        }
        return freshPaths().countTo(now.crowds[cls][TO]);
    }

    public int way(int cls, int way, int k) {
        int row = rowOf(cls, way);
        if (row < 0 || k < -1 || k >= paths.lengths[row]) {
            return NONE;
        }
        return k == -1 ? paths.lengths[row] : paths.roadAt(row, k);
    }

    public int is(int mode) {
        if (!isOneOf(mode, MODES)) {
            return NONE;
        }
        Steady steady = steadyOf(mode);
        if (!steady.stands) {
            return STATE;
        }
        return steady.sum.isOver ? OVER : 1;
    }

    public int load(int mode, int road) {
        if (!isOneOf(mode, MODES) || !now.hasRoad(road)) {
            return NONE;
        }
        Steady steady = steadyOf(mode);
        return steady.stands ? steady.loads[road] : STATE;
    }

    public int on(int mode, int cls, int way) {
        int row = rowOf(cls, way);
        if (!isOneOf(mode, MODES) || row < 0) {
            return NONE;
        }
        Steady steady = steadyOf(mode);
        return steady.stands ? steady.riders[cls][row] : STATE;
    }

    public int steps(int mode) {
        if (!isOneOf(mode, MODES)) {
            return NONE;
        }
        Steady steady = steadyOf(mode);
        return steady.stands ? steady.stepsDone : STATE;
    }

    public long total(int mode) {
        return isOneOf(mode, MODES) ? steadyOf(mode).totalOrNo() : NO;
    }

    public long price(int mode, int cls, int way, int who) {
        int row = rowOf(cls, way);
        if (!isOneOf(mode, MODES) || row < 0 || !isOneOf(who, 2)) {
            return NO;
        }
        return steadyOf(mode).stands ? fare(mode, cls, row, who) : NO;
    }

    public long mean(int mode, int cls, int part) {
        if (!isOneOf(mode, MODES) || !isOneOf(cls, CLASSES) || !isOneOf(part, 2)) {
            return NO;
        }
        int many = now.crowds[cls][MANY];
        Steady steady = steadyOf(mode);
        if (many == 0 || !steady.stands) {
            return NO;
        }
        sum.reset();
        for (int row = 1; row < paths.count; row++) {
            if (steady.riders[cls][row] > 0) {
                sum.add(steady.riders[cls][row], fare(mode, cls, row, 0));
            }
        }
        return sum.isOver ? NO : fractionPart(sum.value, many, part);
    }

    public int shown(int mode, int cls) {
        if (!isOneOf(mode, MODES) || !isOneOf(cls, CLASSES)) {
            return NONE;
        }
        int many = now.crowds[cls][MANY];
        Steady steady = steadyOf(mode);
        if (many == 0 || !steady.stands) {
            return STATE;
        }
        float f = 0;
        for (int row = 1; row < paths.count; row++) {
            int riders = steady.riders[cls][row];
            if (riders > 0) {
                float together = (float) fare(mode, cls, row, 0) * (float) riders;
                f = f + together / (float) many;
            }
        }
        return bitsOf(f);
    }

    public long taken(int mode) {
        if (!isOneOf(mode, MODES)) {
            return NO;
        }
        Steady steady = steadyOf(mode);
        if (!steady.stands) {
            return NO;
        }
        sum.reset();
        for (int r = 0; r < now.size; r++) {
            int load = steady.loads[r];
            if (load > 0 && mode == TOLLED) {
                sum.add(load, now.tolls[r]);
            } else if (load > 0 && mode == MARGINAL) {
                sum.add(load, now.roads[r].lossAt(load));
            }
        }
        return sum.isOver ? NO : sum.value;
    }

    public int busy(int mode, int k) {
        if (!isOneOf(mode, MODES) || !now.hasRoad(k)) {
            return NONE;
        }
        Steady steady = steadyOf(mode);
        if (!steady.stands) {
            return STATE;
        }
        for (int r = 0; r < now.size; r++) {
            if (steady.busierThan(r, now.size) == k) {
                return r;
            }
        }
        return NONE;
    }

    // ---- the best, in thought

    public long best() {
        return bestOrNo();
    }

    public long worse(int mode, int part) {
        if (!isOneOf(mode, MODES) || !isOneOf(part, 2)) {
            return NO;
        }
        long total = steadyOf(mode).totalOrNo();
        long least = bestOrNo();
        if (total == NO || least == NO) {
            return NO;
        }
        if (least == 0) {
            return total == 0 ? part : NO;
        }
        return fractionPart(total - least, least, part);
    }

    public long without(int mode, int road) {
        if (!isOneOf(mode, MODES) || !now.hasRoad(road)) {
            return NO;
        }
        return difference(steadyOf(mode), steadyWithout(mode, road));
    }

    public int paradox(int mode, int road) {
        if (!isOneOf(mode, MODES) || !now.hasRoad(road)) {
            return NONE;
        }
        return verdict(steadyOf(mode), steadyWithout(mode, road));
    }

    public int paradoxes(int mode) {
        if (!isOneOf(mode, MODES)) {
            return NONE;
        }
        Steady steady = steadyOf(mode);
        if (!steady.stands) {
            return STATE;
        }
        int bits = 0;
        for (int r = 0; r < now.size; r++) {
            if (verdict(steady, steadyWithout(mode, r)) == 1) {
                bits |= 1 << r;
            }
        }
        return bits;
    }

    public long adding(int mode, int from, int to, long base, long slope) {
        if (!isOneOf(mode, MODES) || !now.joins(from, to)) {
            return NO;
        }
        if (!isWithin(base, MOST_BASE) || !isWithin(slope, MOST_SLOPE)) {
            return NO;
        }
        thoughtNet.copyFrom(now);
        thoughtNet.append(new Road(from, to, SLOPED, base, slope, 0, 0));
        thoughtPaths.find(thoughtNet, NONE);
        thoughtSteady.settle(thoughtNet, thoughtPaths, mode);
        return difference(steadyOf(mode), thoughtSteady);
    }

    public int fix() {
        Steady steady = steadyOf(MARGINAL);
        if (!steady.stands) {
            return STATE;
        }
        int otherwise = 0;
        for (int r = 0; r < now.size; r++) {
            int load = steady.loads[r];
            long due = load > 0 ? Math.min(MOST_TOLL, now.roads[r].lossAt(load)) : 0;
            if (now.tolls[r] != due) {
                now.tolls[r] = due;
                otherwise++;
            }
        }
        changed();
        return otherwise;
    }

    public int free() {
        int were = 0;
        for (int r = 0; r < now.size; r++) {
            if (now.tolls[r] != 0) {
                now.tolls[r] = 0;
                were++;
            }
        }
        changed();
        return were;
    }

    // ---- told loads, trays, rows

    public int lay(int list, int i, int mode) {
        if (!isOneOf(list, LISTS) || !isOneOf(mode, MODES)) {
            return NONE;
        }
        Row row = rows[list];
        if (row.isMissing()) {
            return NOTHING;
        }
        Steady steady = steadyOf(mode);
        if (!steady.stands) {
            return STATE;
        }
        for (int r = 0; r < now.size; r++) {
            if (i < 0 || i >= row.size - r) {
                return BEYOND;
            }
            row.longs[i + r] = steady.loads[r];
        }
        return now.size;
    }

    public int judge(int list, int i) {
        if (!isOneOf(list, LISTS)) {
            return NONE;
        }
        Row row = rows[list];
        if (row.isMissing()) {
            return NOTHING;
        }
        if (i < 0 || i > row.size - now.size) {
            return BEYOND;
        }
        if (!conserves(row.longs, i)) {
            return 0;
        }
        if (!takeTold(row.longs, i)) {
            return OVER;
        }
        now.addUp(toldLoads, sum);
        if (sum.isOver) {
            return OVER;
        }
        if (!Steady.canAllDrive(now, freshPaths())) {
            return 1;
        }
        long least = bestOrNo();
        if (least == NO) {
            return OVER;
        }
        return sum.value == least ? 2 : 1;
    }

    public int tray(int tray, int kind, int n) {
        if (!isOneOf(tray, TRAYS) || !isKind(kind)) {
            return NONE;
        }
        if (n > MOST_PLACES) {
            return BAD;
        }
        if (n < 0) {
            return BELOW;
        }
        trays[tray].become(kind, n);
        return 1;
    }

    public int lays(int tray, int i, int road) {
        if (!isOneOf(tray, TRAYS) || road != NONE && !now.hasRoad(road)) {
            return NONE;
        }
        Tray asked = trays[tray];
        if (asked.isMissing()) {
            return NOTHING;
        }
        if (!isOneOf(i, asked.size)) {
            return BEYOND;
        }
        Road put = now.hasRoad(road) ? now.roads[road] : null;
        // Each kind is under all kinds with lesser numbers.
        if (put != null && put.kind < asked.kind) {
            return UNLIKE;
        }
        asked.places[i] = put;
        return 1;
    }

    public long laid(int tray, int i, int x) {
        if (!isOneOf(tray, TRAYS) || !isLoad(x) || !isOneOf(i, trays[tray].size)) {
            return NO;
        }
        Road there = trays[tray].places[i];
        return there == null ? NO : there.costAt(x);
    }

    public int like(int tray, int other) {
        if (!isOneOf(tray, TRAYS) || !isOneOf(other, TRAYS)) {
            return NONE;
        }
        if (trays[other].isMissing()) {
            return NOTHING;
        }
        trays[tray].copyFrom(trays[other]);
        return trays[tray].size;
    }

    public long told(int what) {
        switch (what) {
            case 0:
                return now.towns;
            case 1:
                return now.size;
            case 2:
                return now.countDrivers();
            case 3:
                return tape.length;
            case 4:
                return now.sumOfTolls();
            default:
                return NO;
        }
    }

    public int list(int list, int n) {
        if (!isOneOf(list, LISTS)) {
            return NONE;
        }
        if (n > MOST_LONGS) {
            return BAD;
        }
        if (n < 0) {
            return BELOW;
        }
        rows[list].become(n);
        return 1;
    }

    public int set(int list, int i, long v) {
        if (!isOneOf(list, LISTS)) {
            return NONE;
        }
        if (rows[list].isMissing()) {
            return NOTHING;
        }
        if (!isOneOf(i, rows[list].size)) {
            return BEYOND;
        }
        rows[list].longs[i] = v;
        return 1;
    }

    public long get(int list, int i) {
        if (!isOneOf(list, LISTS) || !isOneOf(i, rows[list].size)) {
            return NO;
        }
        return rows[list].longs[i];
    }

    public int image() {
        kept.copyFrom(now);
        isKept = true;
        return kept.size;
    }

    public int undo() {
        if (!isKept) {
            return STATE;
        }
        now.copyFrom(kept);
        changed();
        return now.size;
    }

    // ---- what is known of the roads as they are

    /** Forgets what was found out, for roads, tolls or drivers may be others now. */
    private void changed() {
        pathsAreFresh = false;
        cheapestIsFresh = false;
        for (int mode = 0; mode < MODES; mode++) {
            steadyIsFresh[mode] = false;
        }
    }

    private Paths freshPaths() {
        if (!pathsAreFresh) {
            paths.find(now, NONE);
            pathsAreFresh = true;
        }
        return paths;
    }

    /** Only for a mode that there is. */
    private Steady steadyOf(int mode) {
        if (!steadyIsFresh[mode]) {
            steadies[mode].settle(now, freshPaths(), mode);
            steadyIsFresh[mode] = true;
        }
        return steadies[mode];
    }

    private long bestOrNo() {
        // Whether there are steady loads is alike in all modes, and they need not be found for it.
        if (!Steady.canAllDrive(now, freshPaths())) {
            return NO;
        }
        if (!cheapestIsFresh) {
            cheapest.seek(now);
            cheapestIsFresh = true;
        }
        return cheapest.sum.isOver ? NO : cheapest.sum.value;
    }

    /** The row of a way of a class; NONE, if there is no such class or way. */
    private int rowOf(int cls, int way) {
        return isOneOf(cls, CLASSES) ? freshPaths().rowTo(now.crowds[cls][TO], way) : NONE;
    }

    /** What one of a class pays on a row, with so many more there as are told, or with one at least. */
    private long fare(int mode, int cls, int row, int more) {
        int[] loads = steadies[mode].loads;
        long fare = 0;
        for (int r = 0; r < now.size; r++) {
            if (paths.uses(row, r)) {
                fare += now.priceAt(mode, cls, r, Math.max(1, loads[r] + more));
            }
        }
        return fare;
    }

    // ---- in thought

    private Steady steadyWithout(int mode, int road) {
        // The others keep their numbers here: their order is all that choices go by.
        thoughtPaths.find(now, road);
        thoughtSteady.settle(now, thoughtPaths, mode);
        return thoughtSteady;
    }

    /** PARADOX of a road, by what is with it and without it: 1, 0, STATE or OVER. */
    private static int verdict(Steady with, Steady lacking) {
        if (!with.stands || !lacking.stands) {
            return STATE;
        }
        if (with.sum.isOver || lacking.sum.isOver) {
            return OVER;
        }
        return lacking.sum.value < with.sum.value ? 1 : 0;
    }

    private static long difference(Steady before, Steady behind) {
        long first = before.totalOrNo();
        long second = behind.totalOrNo();
        return first == NO || second == NO ? NO : second - first;
    }

    // ---- told loads

    private boolean conserves(long[] longs, int i) {
        for (int r = 0; r < now.size; r++) {
            if (longs[i + r] < 0) {
                return false;
            }
        }
        for (int town = 1; town < now.towns; town++) {
            if (!isBalanced(longs, i, town)) {
                return false;
            }
        }
        return true;
    }

    /** In halves of 32 bits, for what is told may be so great that its sums would leave a long. */
    private boolean isBalanced(long[] longs, int i, int town) {
        long high = 0;
        long low = 0;
        for (int r = 0; r < now.size; r++) {
            int sign = now.roads[r].to == town ? 1 : now.roads[r].from == town ? -1 : 0;
            high += sign * (longs[i + r] >>> 32);
            low += sign * (longs[i + r] & 0xFFFFFFFFL);
        }
        high += low >> 32;
        return high == 0 && (low & 0xFFFFFFFFL) == now.driversTo(town);
    }

    /** Whether none is above what all drivers could be; if so, they lie in toldLoads. */
    private boolean takeTold(long[] longs, int i) {
        for (int r = 0; r < now.size; r++) {
            if (longs[i + r] > MOST_DRIVERS) {
                return false;
            }
            toldLoads[r] = (int) longs[i + r];
        }
        return true;
    }

    // ---- numbers

    private static boolean isOneOf(int number, int many) {
        return number >= 0 && number < many;
    }

    private static boolean isKind(int kind) {
        return isOneOf(kind, KINDS);
    }

    private static boolean isLoad(int x) {
        return x >= 1 && x <= MOST_DRIVERS;
    }

    private static boolean isWithin(long v, long most) {
        return v >= 0 && v <= most;
    }

    /** Of a fraction of numbers from 0 on, below the line above 0, in lowest terms. */
    private static long fractionPart(long above, long below, int part) {
        long a = above;
        long b = below;
        // Each two rounds halve the numbers, so that 128 are enough for longs.
        for (int round = 0; round < 128 && b != 0; round++) {
            long rest = a % b;
            a = b;
            b = rest;
        }
        if (a == 0) {
            return part;
        }
        return part == 0 ? above / a : below / a;
    }

    /** The bits of a float that is 0 or from 1/16 on and below 2^100; scaling by 2 is exact. */
    private static int bitsOf(float f) {
        if (f <= 0) {
            return 0;
        }
        float scaled = f;
        int exponent = 127;
        for (int round = 0; round < 128 && scaled >= 2; round++) {
            scaled = scaled / 2;
            exponent++;
        }
        for (int round = 0; round < 126 && scaled < 1; round++) {
            scaled = scaled * 2;
            exponent--;
        }
        return exponent << 23 | (int) ((scaled - 1) * 8388608);
    }

    /** A road without its toll: it never changes, so that images and trays may hold it, too. */
    private static final class Road {
        final int from;
        final int to;
        final int kind;
        final long base;
        final long slope;
        final long steep;
        final int knee;

        Road(int from, int to, int kind, long base, long slope, long steep, int knee) {
            this.from = from;
            this.to = to;
            this.kind = kind;
            this.base = base;
            this.slope = slope;
            this.steep = steep;
            this.knee = knee;
        }

        long costAt(int x) {
            long cost = base;
            if (kind >= SLOPED) {
                cost += slope * x;
            }
            if (kind >= KNEED && x > knee) {
                cost += steep * (x - knee);
            }
            return cost;
        }

        /** What the others lose by one; what costs grow by is told by the pieces, not by two costs. */
        long lossAt(int x) {
            long growth = 0;
            if (kind >= SLOPED) {
                growth += slope;
            }
            if (kind >= KNEED && x > knee) {
                growth += steep;
            }
            return (x - 1) * growth;
        }
    }

    /** Towns, roads with tolls, and drivers: all that an image holds. */
    private static final class Net {
        int towns = FEWEST_TOWNS;
        int size = 0;
        final Road[] roads = new Road[ROOM_FOR_ROADS];
        final long[] tolls = new long[ROOM_FOR_ROADS];
        final int[][] crowds = new int[CLASSES][TRAITS];

        Net() {
            Road filler = new Road(0, 1, PLAIN, 0, 0, 0, 0);
            for (int r = 0; r < ROOM_FOR_ROADS; r++) {
                roads[r] = filler;
            }
            for (int cls = 0; cls < CLASSES; cls++) {
                crowds[cls][TO] = 1;
                crowds[cls][TIME] = 1;
                crowds[cls][MONEY] = 1;
            }
        }

        void copyFrom(Net other) {
            towns = other.towns;
            size = other.size;
            for (int r = 0; r < ROOM_FOR_ROADS; r++) {
                roads[r] = other.roads[r];
                tolls[r] = other.tolls[r];
            }
            for (int cls = 0; cls < CLASSES; cls++) {
                System.arraycopy(other.crowds[cls], 0, crowds[cls], 0, TRAITS);
            }
        }

        boolean hasRoad(int r) {
            return isOneOf(r, size);
        }

        boolean joins(int from, int to) {
            return isOneOf(from, towns) && isOneOf(to, towns) && from != to;
        }

        void append(Road road) {
            if (size < ROOM_FOR_ROADS) {
                roads[size] = road;
                tolls[size] = 0;
                size++;
            }
        }

        void drop(int gone) {
            for (int r = gone; r + 1 < size; r++) {
                roads[r] = roads[r + 1];
                tolls[r] = tolls[r + 1];
            }
            size--;
        }

        int countDrivers() {
            int all = 0;
            for (int cls = 0; cls < CLASSES; cls++) {
                all += crowds[cls][MANY];
            }
            return all;
        }

        int driversTo(int town) {
            int there = 0;
            for (int cls = 0; cls < CLASSES; cls++) {
                there += crowds[cls][TO] == town ? crowds[cls][MANY] : 0;
            }
            return there;
        }

        long sumOfTolls() {
            long all = 0;
            for (int r = 0; r < size; r++) {
                all += tolls[r];
            }
            return all;
        }

        /** A way's prices stay in a long: 5 roads at 9 times 1.2 * 10^17 are below 6 * 10^18. */
        long priceAt(int mode, int cls, int r, int x) {
            long each = roads[r].costAt(x);
            if (mode == MARGINAL) {
                each += roads[r].lossAt(x);
            }
            long price = crowds[cls][TIME] * each;
            return mode == TOLLED ? price + crowds[cls][MONEY] * tolls[r] : price;
        }

        void addUp(int[] loads, Sum total) {
            total.reset();
            for (int r = 0; r < size; r++) {
                if (loads[r] > 0) {
                    total.add(loads[r], roads[r].costAt(loads[r]));
                }
            }
        }
    }

    /** A sum of products of numbers from 0 on that knows when it has left a long. */
    private static final class Sum {
        long value = 0;
        boolean isOver = false;

        void reset() {
            value = 0;
            isOver = false;
        }

        void add(long times, long each) {
            if (times <= 0 || each <= 0) {
                return;
            }
            if (times > (Long.MAX_VALUE - value) / each) {
                isOver = true;
            }
            if (!isOver) {
                value += times * each;
            }
        }
    }

    /**
     * All ways from town 0 to any town, as a tree of rows: each is its parent and one road more.
     * Row 0 is the empty way.
     */
    private static final class Paths {
        int count = 1;
        final int[] parents = new int[MOST_ROWS];
        final int[] lastRoads = new int[MOST_ROWS];
        final int[] ends = new int[MOST_ROWS];
        final int[] lengths = new int[MOST_ROWS];
        final int[] roadBits = new int[MOST_ROWS];
        private final int[] townBits = new int[MOST_ROWS];

        Paths() {
            townBits[0] = 1;
        }

        /** Rows grow in the order in which they came: so they are by lengths, then by roads. */
        void find(Net net, int skipped) {
            count = 1;
            for (int row = 0; row < count && row < MOST_ROWS; row++) {
                for (int r = 0; r < net.size; r++) {
                    if (r != skipped) {
                        grow(row, r, net.roads[r]);
                    }
                }
            }
        }

        private void grow(int row, int r, Road road) {
            boolean goesOn = road.from == ends[row] && (townBits[row] >> road.to & 1) == 0;
            if (!goesOn || count >= MOST_ROWS) {
                return;
            }
            parents[count] = row;
            lastRoads[count] = r;
            ends[count] = road.to;
            lengths[count] = lengths[row] + 1;
            roadBits[count] = roadBits[row] | 1 << r;
            townBits[count] = townBits[row] | 1 << road.to;
            count++;
        }

        boolean uses(int row, int r) {
            return (roadBits[row] >> r & 1) == 1;
        }

        int countTo(int town) {
            int found = 0;
            for (int row = 1; row < count; row++) {
                found += ends[row] == town ? 1 : 0;
            }
            return found;
        }

        /** The row of the way of a number to a town, or NONE. */
        int rowTo(int town, int way) {
            int found = 0;
            for (int row = 1; row < count; row++) {
                if (ends[row] == town) {
                    if (found == way) {
                        return row;
                    }
                    found++;
                }
            }
            return NONE;
        }

        int roadAt(int row, int k) {
            int up = row;
            for (int length = lengths[row]; length > k + 1; length--) {
                up = parents[up];
            }
            return lastRoads[up];
        }
    }

    /** Where drivers stay by a mode, when none of them would pay less elsewhere. */
    private static final class Steady {
        final int[] loads = new int[ROOM_FOR_ROADS];
        /** By classes and rows of the paths. */
        final int[][] riders = new int[CLASSES][MOST_ROWS];
        final Sum sum = new Sum();
        boolean stands = false;
        int stepsDone = 0;
        /** Prices of roads for the class looked at: for those on them, and for one more. */
        private final long[] here = new long[ROOM_FOR_ROADS];
        private final long[] more = new long[ROOM_FOR_ROADS];
        private final long[] fares = new long[MOST_ROWS];

        void settle(Net net, Paths paths, int mode) {
            forget();
            stands = canAllDrive(net, paths);
            if (!stands) {
                return;
            }
            for (int cls = 0; cls < CLASSES; cls++) {
                arrive(net, paths, mode, cls);
            }
            for (int s = 0; s < MOST_STEPS && step(net, paths, mode); s++) {
                stepsDone++;
            }
            net.addUp(loads, sum);
        }

        long totalOrNo() {
            return stands && !sum.isOver ? sum.value : NO;
        }

        /** How many of so many roads come ahead of one by loads. */
        int busierThan(int road, int size) {
            int ahead = 0;
            for (int r = 0; r < size; r++) {
                boolean isAhead = loads[r] > loads[road] || loads[r] == loads[road] && r < road;
                ahead += isAhead ? 1 : 0;
            }
            return ahead;
        }

        private void forget() {
            sum.reset();
            stepsDone = 0;
            Arrays.fill(loads, 0);
            for (int cls = 0; cls < CLASSES; cls++) {
                Arrays.fill(riders[cls], 0);
            }
        }

        private static boolean canAllDrive(Net net, Paths paths) {
            for (int cls = 0; cls < CLASSES; cls++) {
                int[] crowd = net.crowds[cls];
                if (crowd[MANY] > 0 && paths.countTo(crowd[TO]) == 0) {
                    return false;
                }
            }
            return true;
        }

        private void arrive(Net net, Paths paths, int mode, int cls) {
            for (int driver = 0; driver < net.crowds[cls][MANY]; driver++) {
                tellPrices(net, mode, cls);
                move(paths, cls, leastRow(paths, net.crowds[cls][TO], 0), 1);
            }
        }

        /** Whether somebody went to another way. */
        private boolean step(Net net, Paths paths, int mode) {
            for (int cls = 0; cls < CLASSES; cls++) {
                if (net.crowds[cls][MANY] > 0) {
                    tellPrices(net, mode, cls);
                    if (stepOf(cls, paths)) {
                        return true;
                    }
                }
            }
            return false;
        }

        private boolean stepOf(int cls, Paths paths) {
            for (int row = 1; row < paths.count; row++) {
                if (riders[cls][row] > 0) {
                    int least = leastRow(paths, paths.ends[row], paths.roadBits[row]);
                    if (least > 0 && fares[least] < fares[row]) {
                        move(paths, cls, row, -1);
                        move(paths, cls, least, 1);
                        return true;
                    }
                }
            }
            return false;
        }

        private void tellPrices(Net net, int mode, int cls) {
            for (int r = 0; r < net.size; r++) {
                here[r] = net.priceAt(mode, cls, r, Math.max(1, loads[r]));
                more[r] = net.priceAt(mode, cls, r, loads[r] + 1);
            }
        }

        /**
         * The first row to a town of those with the least fare, or NONE. Roads of the bits are left
         * and taken again: nobody more is on them then.
         */
        private int leastRow(Paths paths, int town, int leftBits) {
            int least = NONE;
            for (int row = 1; row < paths.count; row++) {
                int r = paths.lastRoads[row];
                long last = (leftBits >> r & 1) == 1 ? here[r] : more[r];
                fares[row] = fares[paths.parents[row]] + last;
                if (paths.ends[row] == town && (least < 0 || fares[row] < fares[least])) {
                    least = row;
                }
            }
            return least;
        }

        private void move(Paths paths, int cls, int row, int by) {
            if (row < 0) {
                return;
            }
            riders[cls][row] += by;
            for (int r = 0; r < ROOM_FOR_ROADS; r++) {
                loads[r] += paths.uses(row, r) ? by : 0;
            }
        }
    }

    /**
     * The least total: all start in one town, so that drivers of all classes are one flow, and one
     * more goes where it makes the total grow least, on the nearest way that may also push others
     * back from roads. That is exact, for totals of roads grow the faster the more are on them.
     */
    private static final class Cheapest {
        final Sum sum = new Sum();
        private final int[] loads = new int[ROOM_FOR_ROADS];
        private final boolean[] isMet = new boolean[MOST_TOWNS];
        private final long[] far = new long[MOST_TOWNS];
        private final int[] cameFrom = new int[MOST_TOWNS];
        private final int[] cameBy = new int[MOST_TOWNS];

        void seek(Net net) {
            Arrays.fill(loads, 0);
            for (int cls = 0; cls < CLASSES; cls++) {
                for (int driver = 0; driver < net.crowds[cls][MANY]; driver++) {
                    measure(net);
                    push(net, net.crowds[cls][TO]);
                }
            }
            net.addUp(loads, sum);
        }

        private void measure(Net net) {
            for (int town = 0; town < MOST_TOWNS; town++) {
                isMet[town] = town == 0;
                far[town] = 0;
            }
            boolean nearer = true;
            for (int round = 0; round < MOST_TOWNS && nearer; round++) {
                nearer = false;
                for (int r = 0; r < net.size; r++) {
                    nearer |= reach(net, r);
                }
            }
        }

        /** Whether a town is nearer by a road with one more on it, or against it with one less. */
        private boolean reach(Net net, int r) {
            Road road = net.roads[r];
            int x = loads[r];
            boolean nearer = comeTo(road.to, road.from, r, road.costAt(x + 1) + road.lossAt(x + 1));
            if (x > 0) {
                nearer |= comeTo(road.from, road.to, r, -road.costAt(x) - road.lossAt(x));
            }
            return nearer;
        }

        private boolean comeTo(int town, int from, int r, long length) {
            if (!isMet[from] || isMet[town] && far[town] <= far[from] + length) {
                return false;
            }
            isMet[town] = true;
            far[town] = far[from] + length;
            cameFrom[town] = from;
            cameBy[town] = r;
            return true;
        }

        private void push(Net net, int to) {
            int town = isMet[to] ? to : 0;
            for (int part = 0; part < MOST_TOWNS && town != 0; part++) {
                int r = cameBy[town];
                loads[r] += net.roads[r].to == town ? 1 : -1;
                town = cameFrom[town];
            }
        }
    }

    /** Bytes, and the reader of roads told by them. */
    private static final class Tape {
        int length = 0;
        private final int[] bytes = new int[MOST_BYTES];
        private int at = 0;
        private int fault = 0;

        boolean push(int letter) {
            if (length >= MOST_BYTES) {
                return false;
            }
            bytes[length] = letter;
            length++;
            return true;
        }

        /** How many roads came behind the net's, or FAULTY less the fault. */
        int readInto(Net net) {
            at = 0;
            for (int part = 0; part <= MOST_ROADS; part++) {
                if (!readRoad(net)) {
                    return FAULTY - fault;
                }
                if (at >= length) {
                    return part + 1;
                }
                if (!expects(';')) {
                    return FAULTY - fault;
                }
            }
            return FAULTY - at;
        }

        private boolean readRoad(Net net) {
            if (net.size >= MOST_ROADS) {
                return failsAt(at);
            }
            int from = readTown(net, NONE);
            if (from < 0 || !expects('>')) {
                return false;
            }
            int to = readTown(net, from);
            if (to < 0 || !expects('=')) {
                return false;
            }
            int base = readNumber(6);
            return base >= 0 && readRest(net, from, to, base);
        }

        /** What may stand behind BASE; the road comes, if that is well. */
        private boolean readRest(Net net, int from, int to, int base) {
            int kind = PLAIN;
            int slope = 0;
            int knee = 0;
            int steep = 0;
            if (eats('+')) {
                kind = SLOPED;
                slope = readNumber(6);
                if (slope >= 0 && eats('^')) {
                    kind = KNEED;
                    knee = readKnee();
                    steep = knee >= 0 && expects(':') ? readNumber(6) : NONE;
                }
            }
            if (slope < 0 || steep < 0) {
                return false;
            }
            net.append(new Road(from, to, kind, base, slope, steep, knee));
            return true;
        }

        private int readTown(Net net, int other) {
            int begin = at;
            int town = readNumber(1);
            if (town >= net.towns || town >= 0 && town == other) {
                failsAt(begin);
                return NONE;
            }
            return town;
        }

        private int readKnee() {
            int begin = at;
            int knee = readNumber(2);
            if (knee > MOST_KNEE) {
                failsAt(begin);
                return NONE;
            }
            return knee;
        }

        /** A number of 1 figure to so many; NONE, if no figure stands there. */
        private int readNumber(int most) {
            int number = 0;
            int figures = 0;
            while (figures < most && at < length && bytes[at] >= '0' && bytes[at] <= '9') {
                number = number * 10 + bytes[at] - '0';
                figures++;
                at++;
            }
            if (figures == 0) {
                failsAt(at);
                return NONE;
            }
            return number;
        }

        private boolean eats(char letter) {
            if (at >= length || bytes[at] != letter) {
                return false;
            }
            at++;
            return true;
        }

        private boolean expects(char letter) {
            return eats(letter) || failsAt(at);
        }

        private boolean failsAt(int place) {
            fault = place;
            return false;
        }
    }

    /** A row for roads of a kind and those under it. */
    private static final class Tray {
        int size = NONE;
        int kind = PLAIN;
        final Road[] places = new Road[MOST_PLACES];

        boolean isMissing() {
            return size < 0;
        }

        void become(int newKind, int newSize) {
            kind = newKind;
            size = newSize;
            for (int i = 0; i < MOST_PLACES; i++) {
                places[i] = null;
            }
        }

        void copyFrom(Tray other) {
            kind = other.kind;
            size = other.size;
            for (int i = 0; i < MOST_PLACES; i++) {
                places[i] = other.places[i];
            }
        }
    }

    /** What a LIST holds. */
    private static final class Row {
        int size = NONE;
        final long[] longs = new long[MOST_LONGS];

        boolean isMissing() {
            return size < 0;
        }

        void become(int newSize) {
            size = newSize;
            Arrays.fill(longs, 0);
        }
    }
}
