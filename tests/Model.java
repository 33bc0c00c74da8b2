import java.math.BigInteger;
import java.util.ArrayList;
import java.util.Arrays;
import java.util.Comparator;
import java.util.List;

/**
 * The document once more, as plainly as it can be written: all is found anew at each call, numbers
 * are without bound, and the least total is found by trying all choices or by mending cycles.
 */
public final class Model {
    private static final long NO = Long.MIN_VALUE;
    private static final BigInteger MAX = BigInteger.valueOf(Long.MAX_VALUE);
    private static final long[] MOST = {0, 0, 2, 100_000_000_000_000_000L, 100_000_000_000_000L,
        100_000_000_000_000L, 36, 1_000_000_000L};

    /** Towns, roads (from, to, kind, base, slope, steep, knee, toll) and classes. */
    private static final class World {
        int n = 2;
        List<long[]> roads = new ArrayList<>();
        int[][] classes = {{1, 0, 1, 1}, {1, 0, 1, 1}, {1, 0, 1, 1}};

        World copy() {
            World w = new World();
            w.n = n;
            for (long[] road : roads) {
                w.roads.add(road.clone());
            }
            for (int c = 0; c < 3; c++) {
                w.classes[c] = classes[c].clone();
            }
            return w;
        }
    }

    /** Steady loads; null instead, if there are none. */
    private static final class Found {
        List<List<List<Integer>>> ways = new ArrayList<>();
        int[][] on = new int[3][];
        int[] loads;
        int steps;
        BigInteger total;
    }

    private World world = new World();
    private World image = null;
    private String tape = "";
    private final long[][] lists = new long[4][];
    private final long[][][] trays = new long[3][][];
    private final int[] trayKinds = new int[3];
    private final Found[] memory = new Found[3];
    private final boolean[] remembered = new boolean[3];
    private BigInteger bestMemory = null;
    /** So that a test can tell whether both ways to the least total were used. */
    int triedAll = 0;
    int mended = 0;

    private void changed() {
        Arrays.fill(remembered, false);
        bestMemory = null;
    }

    // ---- told

    public int towns(int n) {
        if (n < 2 || n > 6) {
            return -2;
        }
        int was = world.n;
        world.n = n;
        world.roads.clear();
        changed();
        return was;
    }

    private boolean town(int t) {
        return t >= 0 && t < world.n;
    }

    private boolean hasRoad(int r) {
        return r >= 0 && r < world.roads.size();
    }

    private static boolean cls(int c) {
        return c == 0 || c == 1 || c == 2;
    }

    public int road(int from, int to, int kind, long base, long slope, long steep, int knee) {
        if (!town(from) || !town(to) || from == to || kind < 0 || kind > 2) {
            return -1;
        }
        long[] road = {from, to, kind, base, slope, steep, knee, 0};
        for (int k = 3; k < 7; k++) {
            if (road[k] < 0 || road[k] > MOST[k]) {
                return -2;
            }
        }
        if (world.roads.size() == 12) {
            return -4;
        }
        world.roads.add(road);
        changed();
        return world.roads.size() - 1;
    }

    public int close(int road) {
        if (!hasRoad(road)) {
            return -1;
        }
        world.roads.remove(road);
        changed();
        return world.roads.size();
    }

    public long toll(int road, long v) {
        if (!hasRoad(road)) {
            return -1;
        }
        if (v < 0 || v > MOST[7]) {
            return -2;
        }
        long was = world.roads.get(road)[7];
        world.roads.get(road)[7] = v;
        changed();
        return was;
    }

    public long of(int road, int what) {
        return hasRoad(road) && what >= 0 && what < 8 ? world.roads.get(road)[what] : NO;
    }

    private static BigInteger big(long v) {
        return BigInteger.valueOf(v);
    }

    private static BigInteger costBy(long[] road, int x) {
        BigInteger cost = big(road[3]);
        if (road[2] == 1 || road[2] == 2) {
            cost = cost.add(big(road[4]).multiply(big(x)));
        }
        if (road[2] == 2) {
            cost = cost.add(big(road[5]).multiply(big(Math.max(0, x - road[6]))));
        }
        return cost;
    }

    private static BigInteger lossBy(long[] road, int x) {
        if (x == 1) {
            return BigInteger.ZERO;
        }
        return costBy(road, x).subtract(costBy(road, x - 1)).multiply(big(x - 1));
    }

    public long cost(int road, int x, int what) {
        if (!hasRoad(road) || x < 1 || x > 36 || what < 0 || what > 1) {
            return NO;
        }
        long[] r = world.roads.get(road);
        return (what == 0 ? costBy(r, x) : lossBy(r, x)).longValueExact();
    }

    public int drivers(int c, int what, int v) {
        if (!cls(c) || what < 0 || what > 3) {
            return -1;
        }
        boolean good = what == 0 ? v >= 1 && v <= 5 : what == 1 ? v >= 0 && v <= 12
                : what == 2 ? v >= 1 && v <= 9 : v >= 0 && v <= 9;
        if (!good) {
            return -2;
        }
        int was = world.classes[c][what];
        world.classes[c][what] = v;
        changed();
        return was;
    }

    public int driversOf(int c, int what) {
        return cls(c) && what >= 0 && what < 4 ? world.classes[c][what] : -1;
    }

    public int feed(int letter) {
        if (letter < 1 || letter > 127) {
            return -2;
        }
        if (tape.length() == 100) {
            return -4;
        }
        tape += (char) letter;
        return tape.length();
    }

    public int clear() {
        int had = tape.length();
        tape = "";
        return had;
    }

    public int roads() {
        String text = tape;
        tape = "";
        List<long[]> came = new ArrayList<>();
        int fault = readText(text, came);
        if (fault >= 0) {
            return -100 - fault;
        }
        world.roads.addAll(came);
        changed();
        return came.size();
    }

    /** A machine of states that sees one byte at a time; -1, if there is no fault. */
    private int readText(String text, List<long[]> came) {
        String state = "start";
        long[] road = null;
        int begin = 0;
        for (int at = 0; at <= text.length(); at++) {
            char c = at < text.length() ? text.charAt(at) : 0;
            boolean figure = c >= '0' && c <= '9';
            if (state.equals("start")) {
                if (world.roads.size() + came.size() == 12) {
                    return at;
                }
                road = new long[8];
                if (!figure || c - '0' >= world.n) {
                    return at;
                }
                road[0] = c - '0';
                state = ">";
            } else if (state.equals(">") || state.equals("=")) {
                if (c != state.charAt(0)) {
                    return at;
                }
                begin = at + 1;
                state = c == '>' ? "to" : "base";
            } else if (state.equals("to")) {
                if (!figure || c - '0' >= world.n || c - '0' == road[0]) {
                    return at;
                }
                road[1] = c - '0';
                state = "=";
            } else {
                int what = state.equals("base") ? 3 : state.equals("slope") ? 4
                        : state.equals("steep") ? 5 : 6;
                int most = what == 6 ? 2 : 6;
                if (figure && at - begin < most) {
                    road[what] = road[what] * 10 + c - '0';
                    if (what == 6 && road[what] > 36) {
                        return begin;
                    }
                    continue;
                }
                if (at == begin) {
                    return at;
                }
                if (at == text.length() && what != 6) {
                    came.add(road);
                    return -1;
                }
                if (c == ';' && what != 6) {
                    came.add(road);
                    state = "start";
                } else if (c == '+' && what == 3) {
                    road[2] = 1;
                    state = "slope";
                } else if (c == '^' && what == 4) {
                    road[2] = 2;
                    state = "knee";
                } else if (c == ':' && what == 6) {
                    state = "steep";
                } else {
                    return at;
                }
                begin = at + 1;
            }
        }
        return text.length();
    }

    // ---- ways, steady loads

    private static List<List<Integer>> waysOf(World w, int to) {
        List<List<Integer>> all = new ArrayList<>();
        collect(w, to, 0, new ArrayList<>(List.of(0)), new ArrayList<>(), all);
        Comparator<List<Integer>> order = (a, b) -> {
            if (a.size() != b.size()) {
                return a.size() - b.size();
            }
            for (int k = 0; k < a.size(); k++) {
                if (!a.get(k).equals(b.get(k))) {
                    return a.get(k) - b.get(k);
                }
            }
            return 0;
        };
        all.sort(order);
        return all;
    }

    private static void collect(World w, int to, int at, List<Integer> seen, List<Integer> way,
            List<List<Integer>> all) {
        if (at == to) {
            all.add(new ArrayList<>(way));
            return;
        }
        for (int r = w.roads.size() - 1; r >= 0; r--) {
            long[] road = w.roads.get(r);
            int next = (int) road[1];
            if (road[0] == at && !seen.contains(next)) {
                seen.add(next);
                way.add(r);
                collect(w, to, next, seen, way, all);
                way.remove(way.size() - 1);
                seen.remove(seen.size() - 1);
            }
        }
    }

    public int ways(int c) {
        return cls(c) ? waysOf(world, world.classes[c][0]).size() : -1;
    }

    public int way(int c, int way, int k) {
        if (!cls(c)) {
            return -1;
        }
        List<List<Integer>> all = waysOf(world, world.classes[c][0]);
        if (way < 0 || way >= all.size() || k < -1 || k >= all.get(way).size()) {
            return -1;
        }
        return k == -1 ? all.get(way).size() : all.get(way).get(k);
    }

    private static BigInteger priceOfRoad(World w, int mode, int c, int r, int x) {
        long[] road = w.roads.get(r);
        BigInteger time = big(w.classes[c][2]);
        if (mode == 0) {
            return time.multiply(costBy(road, x));
        }
        if (mode == 1) {
            BigInteger money = big(w.classes[c][3]).multiply(big(road[7]));
            return time.multiply(costBy(road, x)).add(money);
        }
        return time.multiply(costBy(road, x).add(lossBy(road, x)));
    }

    private static BigInteger priceOfWay(World w, int mode, int c, List<Integer> way, int[] loads) {
        BigInteger sum = BigInteger.ZERO;
        for (int r : way) {
            sum = sum.add(priceOfRoad(w, mode, c, r, loads[r]));
        }
        return sum;
    }

    private static void ride(List<Integer> way, int[] loads, int by) {
        for (int r : way) {
            loads[r] += by;
        }
    }

    /** The first way with the least price for one who comes onto it. */
    private static int cheapest(World w, int mode, int c, List<List<Integer>> ways, int[] loads) {
        int least = -1;
        BigInteger price = null;
        for (int k = 0; k < ways.size(); k++) {
            ride(ways.get(k), loads, 1);
            BigInteger p = priceOfWay(w, mode, c, ways.get(k), loads);
            ride(ways.get(k), loads, -1);
            if (least < 0 || p.compareTo(price) < 0) {
                least = k;
                price = p;
            }
        }
        return least;
    }

    private static Found steady(World w, int mode) {
        Found f = new Found();
        f.loads = new int[w.roads.size()];
        for (int c = 0; c < 3; c++) {
            f.ways.add(waysOf(w, w.classes[c][0]));
            f.on[c] = new int[f.ways.get(c).size()];
            if (w.classes[c][1] > 0 && f.on[c].length == 0) {
                return null;
            }
        }
        for (int c = 0; c < 3; c++) {
            for (int k = 0; k < w.classes[c][1]; k++) {
                int way = cheapest(w, mode, c, f.ways.get(c), f.loads);
                f.on[c][way]++;
                ride(f.ways.get(c).get(way), f.loads, 1);
            }
        }
        while (f.steps < 400 && stepped(w, mode, f)) {
            f.steps++;
        }
        f.total = totalOf(w, f.loads);
        return f;
    }

    private static boolean stepped(World w, int mode, Found f) {
        for (int c = 0; c < 3; c++) {
            List<List<Integer>> ways = f.ways.get(c);
            for (int k = 0; k < ways.size(); k++) {
                if (f.on[c][k] == 0) {
                    continue;
                }
                BigInteger paid = priceOfWay(w, mode, c, ways.get(k), f.loads);
                ride(ways.get(k), f.loads, -1);
                int to = cheapest(w, mode, c, ways, f.loads);
                ride(ways.get(to), f.loads, 1);
                if (priceOfWay(w, mode, c, ways.get(to), f.loads).compareTo(paid) < 0) {
                    f.on[c][k]--;
                    f.on[c][to]++;
                    return true;
                }
                ride(ways.get(to), f.loads, -1);
                ride(ways.get(k), f.loads, 1);
            }
        }
        return false;
    }

    private static BigInteger totalOf(World w, int[] loads) {
        BigInteger sum = BigInteger.ZERO;
        for (int r = 0; r < loads.length; r++) {
            sum = sum.add(roadTotal(w.roads.get(r), loads[r]));
        }
        return sum;
    }

    private static BigInteger roadTotal(long[] road, int x) {
        return x == 0 ? BigInteger.ZERO : costBy(road, x).multiply(big(x));
    }

    private static boolean over(BigInteger v) {
        return v.compareTo(MAX) > 0;
    }

    private static boolean mode(int m) {
        return m == 0 || m == 1 || m == 2;
    }

    private Found found(int mode) {
        if (!remembered[mode]) {
            memory[mode] = steady(world, mode);
            remembered[mode] = true;
        }
        return memory[mode];
    }

    public int is(int mode) {
        if (!mode(mode)) {
            return -1;
        }
        Found f = found(mode);
        return f == null ? -3 : over(f.total) ? -6 : 1;
    }

    public int load(int mode, int road) {
        if (!mode(mode) || !hasRoad(road)) {
            return -1;
        }
        Found f = found(mode);
        return f == null ? -3 : f.loads[road];
    }

    public int on(int mode, int c, int way) {
        if (!mode(mode) || !cls(c) || way < 0 || way >= ways(c)) {
            return -1;
        }
        Found f = found(mode);
        return f == null ? -3 : f.on[c][way];
    }

    public int steps(int mode) {
        if (!mode(mode)) {
            return -1;
        }
        Found f = found(mode);
        return f == null ? -3 : f.steps;
    }

    private static long orNo(BigInteger v) {
        return v == null || over(v) ? NO : v.longValueExact();
    }

    public long total(int mode) {
        return mode(mode) && found(mode) != null ? orNo(found(mode).total) : NO;
    }

    public long price(int mode, int c, int way, int who) {
        if (!mode(mode) || !cls(c) || way < 0 || way >= ways(c) || who < 0 || who > 1) {
            return NO;
        }
        Found f = found(mode);
        if (f == null) {
            return NO;
        }
        int[] loads = f.loads.clone();
        for (int r = 0; r < loads.length; r++) {
            loads[r] = who == 1 ? loads[r] + 1 : loads[r] == 0 ? 1 : loads[r];
        }
        return priceOfWay(world, mode, c, f.ways.get(c).get(way), loads).longValueExact();
    }

    private static long fraction(BigInteger above, BigInteger below, int part) {
        BigInteger g = above.gcd(below);
        return (part == 0 ? above : below).divide(g).longValueExact();
    }

    public long mean(int mode, int c, int part) {
        if (!mode(mode) || !cls(c) || part < 0 || part > 1 || world.classes[c][1] == 0) {
            return NO;
        }
        Found f = found(mode);
        if (f == null) {
            return NO;
        }
        BigInteger sum = BigInteger.ZERO;
        for (int k = 0; k < f.on[c].length; k++) {
            if (f.on[c][k] > 0) {
                BigInteger p = priceOfWay(world, mode, c, f.ways.get(c).get(k), f.loads);
                sum = sum.add(p.multiply(big(f.on[c][k])));
            }
        }
        return over(sum) ? NO : fraction(sum, big(world.classes[c][1]), part);
    }

    public int shown(int mode, int c) {
        if (!mode(mode) || !cls(c)) {
            return -1;
        }
        Found f = found(mode);
        if (f == null || world.classes[c][1] == 0) {
            return -3;
        }
        float sum = 0f;
        for (int k = 0; k < f.on[c].length; k++) {
            if (f.on[c][k] > 0) {
                float p = priceOfWay(world, mode, c, f.ways.get(c).get(k), f.loads).floatValue();
                float times = p * f.on[c][k];
                float by = times / world.classes[c][1];
                sum = sum + by;
            }
        }
        return Float.floatToIntBits(sum);
    }

    public long taken(int mode) {
        if (!mode(mode) || found(mode) == null) {
            return NO;
        }
        BigInteger sum = BigInteger.ZERO;
        int[] loads = found(mode).loads;
        for (int r = 0; r < loads.length; r++) {
            long[] road = world.roads.get(r);
            if (mode == 1) {
                sum = sum.add(big(road[7]).multiply(big(loads[r])));
            } else if (mode == 2 && loads[r] > 0) {
                sum = sum.add(lossBy(road, loads[r]).multiply(big(loads[r])));
            }
        }
        return orNo(sum);
    }

    public int busy(int mode, int k) {
        if (!mode(mode) || !hasRoad(k)) {
            return -1;
        }
        Found f = found(mode);
        if (f == null) {
            return -3;
        }
        List<Integer> order = new ArrayList<>();
        for (int r = 0; r < f.loads.length; r++) {
            order.add(r);
        }
        order.sort(Comparator.comparing((Integer r) -> -f.loads[r]));
        return order.get(k);
    }

    // ---- best, in thought

    private BigInteger bestTotal() {
        Found f = found(0);
        if (f == null) {
            return null;
        }
        if (bestMemory == null) {
            double choices = 1;
            for (int c = 0; c < 3; c++) {
                for (int k = 1; k < f.on[c].length; k++) {
                    choices *= (world.classes[c][1] + k) / (double) k;
                }
            }
            if (choices < 3000) {
                triedAll++;
                bestMemory = tryAll(f, 0, 0, world.classes[0][1], new int[f.loads.length]);
            } else {
                mended++;
                bestMemory = mendCycles(f.loads.clone());
            }
        }
        return bestMemory;
    }

    private BigInteger tryAll(Found f, int c, int way, int left, int[] loads) {
        if (c == 3) {
            return totalOf(world, loads);
        }
        if (left == 0) {
            return tryAll(f, c + 1, 0, c < 2 ? world.classes[c + 1][1] : 0, loads);
        }
        if (way == f.on[c].length) {
            return null;
        }
        BigInteger least = null;
        for (int k = 0; k <= left; k++) {
            ride(f.ways.get(c).get(way), loads, k);
            BigInteger t = tryAll(f, c, way + 1, left - k, loads);
            ride(f.ways.get(c).get(way), loads, -k);
            if (t != null && (least == null || t.compareTo(least) < 0)) {
                least = t;
            }
        }
        return least;
    }

    private BigInteger mendCycles(int[] loads) {
        for (int round = 0; round < 10000; round++) {
            if (!mendOne(loads)) {
                return totalOf(world, loads);
            }
        }
        throw new IllegalStateException("cycles without end");
    }

    private boolean mendOne(int[] loads) {
        int n = world.n;
        BigInteger[] far = new BigInteger[n];
        int[] by = new int[n];
        Arrays.fill(far, BigInteger.ZERO);
        Arrays.fill(by, -1);
        int last = -1;
        for (int round = 0; round < n; round++) {
            last = -1;
            for (int arc = 0; arc < 2 * loads.length; arc++) {
                int r = arc / 2;
                int by1 = arc % 2 == 0 ? 1 : -1;
                if (loads[r] + by1 < 0) {
                    continue;
                }
                long[] road = world.roads.get(r);
                int u = (int) road[by1 == 1 ? 0 : 1];
                int v = (int) road[by1 == 1 ? 1 : 0];
                BigInteger d = far[u].add(roadTotal(road, loads[r] + by1))
                        .subtract(roadTotal(road, loads[r]));
                if (d.compareTo(far[v]) < 0) {
                    far[v] = d;
                    by[v] = arc;
                    last = v;
                }
            }
        }
        if (last < 0) {
            return false;
        }
        for (int k = 0; k < n; k++) {
            last = tail(by[last]);
        }
        int at = last;
        do {
            int arc = by[at];
            loads[arc / 2] += arc % 2 == 0 ? 1 : -1;
            at = tail(arc);
        } while (at != last);
        return true;
    }

    private int tail(int arc) {
        return (int) world.roads.get(arc / 2)[arc % 2 == 0 ? 0 : 1];
    }

    public long best() {
        return orNo(bestTotal());
    }

    public long worse(int mode, int part) {
        if (!mode(mode) || part < 0 || part > 1 || found(mode) == null) {
            return NO;
        }
        BigInteger total = found(mode).total;
        BigInteger best = bestTotal();
        if (over(total) || over(best)) {
            return NO;
        }
        if (best.signum() == 0) {
            return total.signum() != 0 ? NO : part == 0 ? 0 : 1;
        }
        return fraction(total.subtract(best), best, part);
    }

    private World lacking(int road) {
        World w = world.copy();
        w.roads.remove(road);
        return w;
    }

    private static long more(Found a, Found b) {
        if (a == null || b == null || over(a.total) || over(b.total)) {
            return NO;
        }
        return b.total.subtract(a.total).longValueExact();
    }

    public long without(int mode, int road) {
        if (!mode(mode) || !hasRoad(road)) {
            return NO;
        }
        return more(found(mode), steady(lacking(road), mode));
    }

    public int paradox(int mode, int road) {
        if (!mode(mode) || !hasRoad(road)) {
            return -1;
        }
        Found a = found(mode);
        Found b = steady(lacking(road), mode);
        if (a == null || b == null) {
            return -3;
        }
        if (over(a.total) || over(b.total)) {
            return -6;
        }
        return b.total.compareTo(a.total) < 0 ? 1 : 0;
    }

    public int paradoxes(int mode) {
        if (!mode(mode)) {
            return -1;
        }
        if (found(mode) == null) {
            return -3;
        }
        int bits = 0;
        for (int r = 0; r < world.roads.size(); r++) {
            bits += paradox(mode, r) == 1 ? 1 << r : 0;
        }
        return bits;
    }

    public long adding(int mode, int from, int to, long base, long slope) {
        if (!mode(mode) || !town(from) || !town(to) || from == to) {
            return NO;
        }
        if (base < 0 || base > MOST[3] || slope < 0 || slope > MOST[4]) {
            return NO;
        }
        World w = world.copy();
        w.roads.add(new long[] {from, to, 1, base, slope, 0, 0, 0});
        return more(found(mode), steady(w, mode));
    }

    public int fix() {
        Found f = found(2);
        if (f == null) {
            return -3;
        }
        int others = 0;
        for (int r = 0; r < f.loads.length; r++) {
            long[] road = world.roads.get(r);
            long v = f.loads[r] == 0 ? 0
                    : lossBy(road, f.loads[r]).min(big(MOST[7])).longValueExact();
            others += road[7] == v ? 0 : 1;
            road[7] = v;
        }
        changed();
        return others;
    }

    public int free() {
        int others = 0;
        for (long[] road : world.roads) {
            others += road[7] == 0 ? 0 : 1;
            road[7] = 0;
        }
        changed();
        return others;
    }

    // ---- told loads, trays, rows

    private static boolean isList(int list) {
        return list >= 0 && list < 4;
    }

    public int lay(int list, int i, int mode) {
        if (!isList(list) || !mode(mode)) {
            return -1;
        }
        if (lists[list] == null) {
            return -11;
        }
        Found f = found(mode);
        if (f == null) {
            return -3;
        }
        int laid = 0;
        for (int r = 0; r < f.loads.length && i >= 0; r++) {
            if ((long) i + r < lists[list].length) {
                lists[list][i + r] = f.loads[r];
                laid++;
            }
        }
        return laid == f.loads.length ? laid : -13;
    }

    public int judge(int list, int i) {
        if (!isList(list)) {
            return -1;
        }
        if (lists[list] == null) {
            return -11;
        }
        int many = world.roads.size();
        if (i < 0 || (long) i + many > lists[list].length) {
            return -13;
        }
        long[] told = Arrays.copyOfRange(lists[list], i, i + many);
        BigInteger[] surplus = new BigInteger[world.n];
        Arrays.fill(surplus, BigInteger.ZERO);
        boolean small = true;
        for (int r = 0; r < many; r++) {
            if (told[r] < 0) {
                return 0;
            }
            small &= told[r] <= 36;
            int from = (int) world.roads.get(r)[0];
            int to = (int) world.roads.get(r)[1];
            surplus[from] = surplus[from].subtract(big(told[r]));
            surplus[to] = surplus[to].add(big(told[r]));
        }
        for (int t = 1; t < world.n; t++) {
            int want = 0;
            for (int[] c : world.classes) {
                want += c[0] == t ? c[1] : 0;
            }
            if (!surplus[t].equals(big(want))) {
                return 0;
            }
        }
        if (!small) {
            return -6;
        }
        int[] loads = new int[many];
        for (int r = 0; r < many; r++) {
            loads[r] = (int) told[r];
        }
        BigInteger total = totalOf(world, loads);
        if (over(total)) {
            return -6;
        }
        BigInteger best = bestTotal();
        if (best == null) {
            return 1;
        }
        return over(best) ? -6 : best.equals(total) ? 2 : 1;
    }

    private static boolean isTray(int tray) {
        return tray >= 0 && tray < 3;
    }

    public int tray(int tray, int kind, int n) {
        if (!isTray(tray) || kind < 0 || kind > 2) {
            return -1;
        }
        if (n > 20) {
            return -2;
        }
        if (n < 0) {
            return -14;
        }
        trays[tray] = new long[n][];
        trayKinds[tray] = kind;
        return 1;
    }

    public int lays(int tray, int i, int road) {
        if (!isTray(tray) || road != -1 && !hasRoad(road)) {
            return -1;
        }
        if (trays[tray] == null) {
            return -11;
        }
        if (i < 0 || i >= trays[tray].length) {
            return -13;
        }
        if (road == -1) {
            trays[tray][i] = null;
            return 1;
        }
        long[] copy = world.roads.get(road).clone();
        if (trayKinds[tray] == 2 && copy[2] != 2 || trayKinds[tray] == 1 && copy[2] == 0) {
            return -16;
        }
        trays[tray][i] = copy;
        return 1;
    }

    public long laid(int tray, int i, int x) {
        if (!isTray(tray) || x < 1 || x > 36 || trays[tray] == null) {
            return NO;
        }
        if (i < 0 || i >= trays[tray].length || trays[tray][i] == null) {
            return NO;
        }
        return costBy(trays[tray][i], x).longValueExact();
    }

    public int like(int tray, int other) {
        if (!isTray(tray) || !isTray(other)) {
            return -1;
        }
        if (trays[other] == null) {
            return -11;
        }
        trays[tray] = trays[other].clone();
        trayKinds[tray] = trayKinds[other];
        return trays[tray].length;
    }

    public long told(int what) {
        long tolls = 0;
        for (long[] road : world.roads) {
            tolls += road[7];
        }
        int all = world.classes[0][1] + world.classes[1][1] + world.classes[2][1];
        long[] answers = {world.n, world.roads.size(), all, tape.length(), tolls};
        return what >= 0 && what < 5 ? answers[what] : NO;
    }

    public int list(int list, int n) {
        if (!isList(list)) {
            return -1;
        }
        if (n > 24) {
            return -2;
        }
        if (n < 0) {
            return -14;
        }
        lists[list] = new long[n];
        return 1;
    }

    public int set(int list, int i, long v) {
        if (!isList(list)) {
            return -1;
        }
        if (lists[list] == null) {
            return -11;
        }
        if (i < 0 || i >= lists[list].length) {
            return -13;
        }
        lists[list][i] = v;
        return 1;
    }

    public long get(int list, int i) {
        if (!isList(list) || lists[list] == null || i < 0 || i >= lists[list].length) {
            return NO;
        }
        return lists[list][i];
    }

    public int image() {
        image = world.copy();
        return image.roads.size();
    }

    public int undo() {
        if (image == null) {
            return -3;
        }
        world = image.copy();
        changed();
        return world.roads.size();
    }
}
