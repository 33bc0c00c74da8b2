import java.lang.reflect.InvocationTargetException;
import java.lang.reflect.Method;
import java.util.ArrayList;
import java.util.Comparator;
import java.util.List;

/** Runs the tests of a class that are marked as edges, each by itself, and counts them. */
final class Edges {
    static final long MOST = Long.MAX_VALUE;
    static final long BASE = 100_000_000_000_000_000L;
    static final long SLOPE = 100_000_000_000_000L;

    private Edges() {
    }

    static List<Method> of(Class<?> tests) {
        List<Method> found = new ArrayList<>();
        for (Method m : tests.getDeclaredMethods()) {
            if (m.isAnnotationPresent(Edge.class)) {
                found.add(m);
            }
        }
        found.sort(Comparator.comparingInt((Method m) -> m.getAnnotation(Edge.class).promise())
                .thenComparing(Method::getName));
        return found;
    }

    /** Whether the answers of one test are all as due. */
    static boolean passes(Method test) throws IllegalAccessException {
        int before = Check.wrong();
        try {
            test.setAccessible(true);
            test.invoke(null);
        } catch (InvocationTargetException e) {
            System.out.println("threw " + e.getCause());
            return false;
        }
        return Check.wrong() == before;
    }

    static void run(Class<?> tests) throws IllegalAccessException {
        int passed = 0;
        int failed = 0;
        for (Method test : of(tests)) {
            if (passes(test)) {
                passed++;
            } else {
                failed++;
                Edge edge = test.getAnnotation(Edge.class);
                System.out.println("FAILED: " + tests.getName() + "." + test.getName() + ", promise "
                        + edge.promise() + ": " + edge.says());
            }
        }
        System.out.println(tests.getName() + ": " + passed + " passed, " + failed + " failed");
        if (failed > 0 || passed == 0) {
            System.exit(1);
        }
    }

    /** Numbers just beyond both bounds, and the farthest. */
    static int[] outside(int least, int most) {
        return new int[] {least - 1, most + 1, Integer.MIN_VALUE, Integer.MAX_VALUE};
    }

    static long[] beyond(long least, long most) {
        return new long[] {least - 1, most + 1, Long.MIN_VALUE, Long.MAX_VALUE};
    }

    /** A row of numbers as a list. */
    static void put(TollWays x, int list, long... values) {
        x.list(list, values.length);
        for (int i = 0; i < values.length; i++) {
            x.set(list, i, values[i]);
        }
    }

    /** Two towns and so many roads from 0 to 1, each dearer by 1 than the one ahead. */
    static TollWays parallel(int many) {
        TollWays x = new TollWays();
        for (int r = 0; r < many; r++) {
            x.road(0, 1, 0, 10 + r, 0, 0, 0);
        }
        return x;
    }

    /**
     * 25 drivers on four roads in a row, one of them on a fifth: 25 times 368,934,881,474,191,032 and
     * the fifth's base. With 7 there, all cost 2^63 less 1; with 8 that is beyond a long.
     */
    static TollWays nearOver(long fifth) {
        TollWays x = new TollWays();
        x.towns(6);
        x.road(0, 1, 0, BASE, 0, 0, 0);
        x.road(1, 2, 0, BASE, 0, 0, 0);
        x.road(2, 3, 0, BASE, 0, 0, 0);
        x.road(3, 4, 0, 68_934_881_474_191_032L, 0, 0, 0);
        x.road(4, 5, 0, fifth, 0, 0, 0);
        Check.crowd(x, 0, 4, 12, 1, 1);
        Check.crowd(x, 1, 4, 12, 1, 1);
        Check.crowd(x, 2, 5, 1, 1, 1);
        return x;
    }

    /** nearOver(8), and beside the fifth road one of 7 whose toll of 5 keeps the tolled off it. */
    static TollWays overByToll() {
        TollWays x = nearOver(8);
        x.road(4, 5, 0, 7, 0, 0, 0);
        x.toll(5, 5);
        return x;
    }

    /**
     * 36 drivers on five roads as dear as may be: all cost 180 times 107,200,000,000,000,000, which
     * is beyond 2^64, so that a long would be above 0 again.
     */
    static TollWays farOver() {
        TollWays x = new TollWays();
        x.towns(6);
        for (int t = 0; t < 5; t++) {
            x.road(t, t + 1, 2, BASE, SLOPE, SLOPE, 0);
        }
        for (int cls = 0; cls < 3; cls++) {
            Check.crowd(x, cls, 5, 12, 9, 9);
        }
        return x;
    }

    /** One driver wants to a town to which no way leads; another of class 0 could drive. */
    static TollWays stuck() {
        TollWays x = Check.made(3, "0>1=5;0>1=6");
        Check.crowd(x, 0, 1, 2, 1, 1);
        Check.crowd(x, 1, 2, 1, 1, 1);
        return x;
    }
}
