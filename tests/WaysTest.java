/** Promises 13 to 24: ways and steady loads. */
public final class WaysTest {
    private static final long BASE = 100_000_000_000_000_000L;
    /** Roads as of() tells them. */
    static final long[][] MOST_STEPS = {
        {0, 2, 2, 0, 6, 1432, 12, 38}, {0, 2, 2, 313, 37, 24367, 1, 366},
        {2, 3, 2, 3, 4, 2302, 12, 44}, {0, 1, 2, 350, 375, 2, 11, 3049},
        {0, 1, 2, 3, 749, 44, 19, 2948}, {3, 1, 1, 263, 205, 0, 12, 71},
        {0, 3, 2, 124, 4, 40, 15, 675}, {0, 1, 0, 490, 92, 843, 10, 5078},
        {3, 2, 1, 0, 5, 39110, 9, 2}, {3, 1, 0, 569, 0, 3, 15, 946},
        {2, 1, 2, 1, 254, 87789, 4, 228}, {3, 1, 2, 2, 0, 58, 3, 6}};
    private static final String BRAESS = "0>1=0+10;0>2=50+1;1>3=50+1;2>3=0+10;1>2=10+1";

    public static void main(String[] args) {
        ways();
        mostWays();
        braess();
        without();
        questions();
        ties();
        sharedRoads();
        classes();
        means();
        floats();
        over();
        busy();
        manySteps();
        mostSteps();
        Check.finish();
    }

    private static void way(TollWays x, int cls, int way, int... roads) {
        Check.due("14 length of " + way, roads.length, x.way(cls, way, -1));
        for (int k = 0; k < roads.length; k++) {
            Check.due("14 way " + way + " road " + k, roads[k], x.way(cls, way, k));
        }
        Check.due("14 behind the last", Check.NONE, x.way(cls, way, roads.length));
        Check.due("14 below", Check.NONE, x.way(cls, way, -2));
    }

    private static void ways() {
        TollWays x = Check.made(4, "2>3=1;1>3=1;0>2=1;1>2=1;2>1=1;0>1=1;0>3=1;3>0=1;0>1=2;1>0=1");
        x.drivers(0, 0, 3);
        x.drivers(1, 0, 2);
        x.drivers(2, 0, 5);
        Check.due("13 to 3", 7, x.ways(0));
        way(x, 0, 0, 6);
        way(x, 0, 1, 2, 0);
        way(x, 0, 2, 5, 1);
        way(x, 0, 3, 8, 1);
        way(x, 0, 4, 2, 4, 1);
        way(x, 0, 5, 5, 3, 0);
        way(x, 0, 6, 8, 3, 0);
        Check.due("13 to 2", 3, x.ways(1));
        way(x, 1, 0, 2);
        way(x, 1, 1, 5, 3);
        way(x, 1, 2, 8, 3);
        Check.due("13 to a town that isn't there", 0, x.ways(2));
        Check.due("14 no way there", Check.NONE, x.way(2, 0, -1));
        Check.due("13 class below", Check.NONE, x.ways(-1));
        Check.due("13 class above", Check.NONE, x.ways(3));
        Check.due("14 class below", Check.NONE, x.way(-1, 0, -1));
        Check.due("14 class above", Check.NONE, x.way(3, 0, -1));
        Check.due("14 way below", Check.NONE, x.way(0, -1, -1));
        Check.due("14 way above", Check.NONE, x.way(0, 7, -1));
        x.close(6);
        Check.due("13 one less", 6, x.ways(0));
        way(x, 0, 0, 2, 0);
        way(x, 0, 2, 7, 1);
    }

    private static void mostWays() {
        TollWays x = new TollWays();
        x.towns(6);
        for (int k = 0; k < 12; k++) {
            x.road(k / 3, k / 3 + 1, 0, 1, 0, 0, 0);
        }
        x.drivers(0, 0, 4);
        Check.due("13 four times three", 81, x.ways(0));
        way(x, 0, 0, 0, 3, 6, 9);
        way(x, 0, 1, 0, 3, 6, 10);
        way(x, 0, 80, 2, 5, 8, 11);
        x.drivers(0, 1, 1);
        Check.due("30 a hundred and eight", -1, x.adding(0, 0, 1, 0, 0));
        Check.due("30 a shortcut", -4, x.adding(0, 0, 4, 0, 0));
    }

    private static void loads(TollWays x, int mode, int... due) {
        for (int r = 0; r < due.length; r++) {
            Check.due("16 mode " + mode + " road " + r, due[r], x.load(mode, r));
        }
    }

    private static void riders(TollWays x, int mode, int cls, int... due) {
        for (int w = 0; w < due.length; w++) {
            Check.due("17 mode " + mode + " class " + cls + " way " + w, due[w], x.on(mode, cls, w));
        }
    }

    private static void braess() {
        TollWays x = Check.made(4, BRAESS);
        Check.crowd(x, 0, 3, 6, 1, 1);
        Check.due("15 steady", 1, x.is(0));
        loads(x, 0, 4, 2, 2, 4, 2);
        riders(x, 0, 0, 2, 2, 2);
        Check.due("18 steps", 1, x.steps(0));
        Check.due("19 total", 552, x.total(0));
        loads(x, 2, 3, 3, 3, 3, 0);
        riders(x, 2, 0, 3, 3, 0);
        Check.due("18 steps, marginal", 2, x.steps(2));
        Check.due("19 total, marginal", 498, x.total(2));
        Check.due("20 on it", 92, x.price(0, 0, 2, 0));
        Check.due("20 one more", 113, x.price(0, 0, 2, 1));
        Check.due("20 nobody is on it", 50 + 11 + 50, x.price(2, 0, 2, 0));
        Check.due("23 free", 0, x.taken(0));
        Check.due("23 marginal", 2 * 3 * 20 + 2 * 3 * 2, x.taken(2));
        x.toll(4, 100);
        loads(x, 1, 3, 3, 3, 3, 0);
        Check.due("19 tolled", 498, x.total(1));
        Check.due("20 with toll", 40 + 11 + 40 + 100, x.price(1, 0, 2, 1));
        Check.due("20 with toll, nobody there", 30 + 11 + 30 + 100, x.price(1, 0, 2, 0));
        Check.due("20 free is without", 40 + 11 + 40 + 22, x.price(0, 0, 2, 1));
        x.toll(0, 3);
        Check.due("23 tolled", 9, x.taken(1));
        x.drivers(0, 3, 0);
        loads(x, 1, 4, 2, 2, 4, 2);
        Check.due("23 tolled, though nobody minds", 12 + 200, x.taken(1));
    }

    private static void without() {
        TollWays x = Check.made(3, "0>1=1");
        Check.due("15 without drivers", 1, x.is(2));
        Check.due("16 without drivers", 0, x.load(2, 0));
        Check.due("17 without drivers", 0, x.on(2, 0, 0));
        Check.due("18 without drivers", 0, x.steps(2));
        Check.due("19 without drivers", 0, x.total(2));
        Check.due("20 without drivers", 1, x.price(2, 0, 0, 0));
        Check.due("21 without drivers", Check.NO, x.mean(2, 0, 0));
        Check.due("22 without drivers", Check.STATE, x.shown(2, 0));
        Check.crowd(x, 1, 2, 1, 1, 1);
        for (int mode = 0; mode < 3; mode++) {
            none(x, mode);
        }
        x.drivers(1, 0, 5);
        none(x, 0);
        x.drivers(1, 1, 0);
        Check.due("15 nobody goes there", 1, x.is(0));
    }

    private static void none(TollWays x, int mode) {
        Check.due("15 no way", Check.STATE, x.is(mode));
        Check.due("16 no way", Check.STATE, x.load(mode, 0));
        Check.due("17 no way", Check.STATE, x.on(mode, 0, 0));
        Check.due("17 NONE ahead of STATE", Check.NONE, x.on(mode, 1, 0));
        Check.due("18 no way", Check.STATE, x.steps(mode));
        Check.due("19 no way", Check.NO, x.total(mode));
        Check.due("20 no way", Check.NO, x.price(mode, 0, 0, 0));
        Check.due("21 no way", Check.NO, x.mean(mode, 1, 0));
        Check.due("22 no way", Check.STATE, x.shown(mode, 1));
        Check.due("23 no way", Check.NO, x.taken(mode));
        Check.due("24 no way", Check.STATE, x.busy(mode, 0));
        Check.due("24 NONE ahead of STATE", Check.NONE, x.busy(mode, 1));
    }

    private static void questions() {
        TollWays x = Check.made(2, "0>1=5");
        x.drivers(0, 1, 2);
        for (int mode = -1; mode < 4; mode += 4) {
            Check.due("15 mode", Check.NONE, x.is(mode));
            Check.due("16 mode", Check.NONE, x.load(mode, 0));
            Check.due("17 mode", Check.NONE, x.on(mode, 0, 0));
            Check.due("18 mode", Check.NONE, x.steps(mode));
            Check.due("19 mode", Check.NO, x.total(mode));
            Check.due("20 mode", Check.NO, x.price(mode, 0, 0, 0));
            Check.due("21 mode", Check.NO, x.mean(mode, 0, 0));
            Check.due("22 mode", Check.NONE, x.shown(mode, 0));
            Check.due("23 mode", Check.NO, x.taken(mode));
            Check.due("24 mode", Check.NONE, x.busy(mode, 0));
            Check.due("17 class", Check.NONE, x.on(0, mode, 0));
            Check.due("20 class", Check.NO, x.price(0, mode, 0, 0));
            Check.due("21 class", Check.NO, x.mean(0, mode, 0));
            Check.due("22 class", Check.NONE, x.shown(0, mode));
        }
        for (int number = -1; number < 3; number += 3) {
            Check.due("16 road", Check.NONE, x.load(0, number));
            Check.due("17 way", Check.NONE, x.on(0, 0, number));
            Check.due("20 way", Check.NO, x.price(0, 0, number, 0));
            Check.due("20 who", Check.NO, x.price(0, 0, 0, number));
            Check.due("21 part", Check.NO, x.mean(0, 0, number));
            Check.due("24 k", Check.NONE, x.busy(0, number));
        }
        Check.due("24 k behind the last", Check.NONE, x.busy(0, 1));
    }

    /** Of several ways with the least price the first; who pays as much elsewhere stays. */
    private static void ties() {
        TollWays x = Check.made(2, "0>1=0+1;0>1=0+1;0>1=0+1");
        Check.crowd(x, 0, 1, 4, 1, 1);
        loads(x, 0, 2, 1, 1);
        Check.due("18 nobody gains", 0, x.steps(0));
        x = Check.made(2, "0>1=2;0>1=0+1");
        Check.crowd(x, 0, 1, 5, 1, 1);
        loads(x, 0, 4, 1);
        x = Check.made(2, "0>1=0+1;0>1=2");
        Check.crowd(x, 0, 1, 5, 1, 1);
        loads(x, 0, 2, 3);
    }

    /** Who steps to a way that shares a road is not one more on that road. */
    private static void sharedRoads() {
        TollWays x = Check.made(3, "0>1=0+100;1>2=10;1>2=0+2");
        Check.crowd(x, 0, 2, 7, 1, 1);
        loads(x, 0, 7, 3, 4);
        Check.due("20 others", 700 + 10, x.price(0, 0, 0, 0));
        Check.due("20 one more on all", 800 + 10, x.price(0, 0, 0, 1));
        Check.due("18 steps", 0, x.steps(0));
        // Class 0 comes first, on roads 0 and 2; class 1 makes road 0 dear, so that one after the
        // other of class 0 goes to road 3, and each makes room on road 0 for one from road 1.
        x = Check.made(3, "0>1=0+3;0>1=20;1>2=5;0>2=21");
        Check.crowd(x, 0, 2, 3, 1, 1);
        Check.crowd(x, 1, 1, 5, 1, 1);
        loads(x, 0, 5, 0, 0, 3);
        Check.due("18 five steps", 5, x.steps(0));
        riders(x, 0, 0, 3, 0, 0);
        riders(x, 0, 1, 5, 0);
    }

    /** Times and moneys of classes are their own. */
    private static void classes() {
        TollWays x = Check.made(2, "0>1=10;0>1=2");
        x.toll(1, 9);
        Check.crowd(x, 0, 1, 3, 1, 1);
        Check.crowd(x, 1, 1, 4, 2, 1);
        Check.crowd(x, 2, 1, 5, 8, 9);
        riders(x, 1, 0, 3, 0);
        riders(x, 1, 1, 0, 4);
        riders(x, 1, 2, 5, 0);
        Check.due("20 time and money", 8 * 2 + 9 * 9, x.price(1, 2, 1, 0));
        Check.due("20 time alone", 8 * 2, x.price(2, 2, 1, 0));
        Check.due("19 tolls are no cost", 8 * 10 + 4 * 2, x.total(1));
        Check.due("23 taken", 36, x.taken(1));
    }

    private static void means() {
        TollWays x = Check.made(2, "0>1=0+2;0>1=7");
        Check.crowd(x, 0, 1, 4, 3, 1);
        loads(x, 0, 3, 1);
        Check.due("21 above, lowest terms", 75, x.mean(0, 0, 0));
        Check.due("21 below", 4, x.mean(0, 0, 1));
        x.drivers(0, 2, 4);
        Check.due("21 a whole number", 25, x.mean(0, 0, 0));
        Check.due("21 by one", 1, x.mean(0, 0, 1));
        Check.due("21 the others have none", Check.NO, x.mean(0, 1, 0));
        x = Check.made(2, "0>1=0");
        Check.crowd(x, 2, 1, 5, 3, 1);
        Check.due("21 nothing", 0, x.mean(0, 2, 0));
        Check.due("21 nothing by one", 1, x.mean(0, 2, 1));
        Check.due("22 nothing", 0, x.shown(0, 2));
    }

    private static void floats() {
        TollWays x = Check.made(2, "0>1=0+2;0>1=7");
        Check.crowd(x, 0, 1, 3, 1, 1);
        Check.due("22 six", Float.floatToIntBits(6f), x.shown(0, 0));
        x.drivers(0, 1, 7);
        float f = 0f;
        f = f + 6f * 3f / 7f;
        f = f + 7f * 4f / 7f;
        Check.due("22 by ways", Float.floatToIntBits(f), x.shown(0, 0));
        x = new TollWays();
        x.road(0, 1, 0, 16_777_217L, 0, 0, 0);
        Check.crowd(x, 0, 1, 1, 1, 1);
        Check.due("22 nearest", Float.floatToIntBits(16_777_216f), x.shown(0, 0));
        x = new TollWays();
        x.road(0, 1, 1, 1, 0, 0, 0);
        x.road(0, 1, 2, 0, 0, 100, 1);
        Check.crowd(x, 0, 1, 12, 1, 1);
        f = 0f + 1f * 11f / 12f;
        Check.due("22 below one", Float.floatToIntBits(f), x.shown(0, 0));
        x = new TollWays();
        x.road(0, 1, 0, BASE, 0, 0, 0);
        Check.crowd(x, 0, 1, 11, 9, 1);
        f = 0f + (float) (9 * BASE) * 11f / 11f;
        Check.due("22 great", Float.floatToIntBits(f), x.shown(0, 0));
    }

    private static void over() {
        TollWays x = new TollWays();
        x.towns(4);
        for (int t = 0; t < 3; t++) {
            x.road(t, t + 1, 0, BASE, 0, 0, 0);
        }
        for (int cls = 0; cls < 3; cls++) {
            Check.crowd(x, cls, 3, 12, 1, 1);
        }
        Check.due("15 over", Check.OVER, x.is(0));
        Check.due("19 over", Check.NO, x.total(0));
        Check.due("16 loads all the same", 36, x.load(0, 2));
        Check.due("20 a price all the same", 3 * BASE, x.price(0, 0, 0, 0));
        Check.due("21 a mean all the same", 3 * BASE, x.mean(0, 0, 0));
        Check.due("22 a float all the same", Float.floatToIntBits(3e17f), x.shown(0, 0));
        Check.due("23 taken all the same", 0, x.taken(2));
        Check.due("24 busy all the same", 1, x.busy(0, 1));
        x.drivers(0, 2, 3);
        Check.due("21 paid together is over", Check.NO, x.mean(0, 0, 0));
        Check.due("21 of the other class it isn't", 1, x.mean(0, 1, 1));
        x.drivers(2, 1, 6);
        Check.due("15 just within", 1, x.is(0));
        Check.due("19 just within", 90 * BASE, x.total(0));
        x.drivers(2, 1, 7);
        Check.due("15 just beyond", Check.OVER, x.is(0));
    }

    private static void busy() {
        TollWays x = Check.made(4, BRAESS);
        Check.crowd(x, 0, 3, 6, 1, 1);
        int[] free = {0, 3, 1, 2, 4};
        int[] marginal = {0, 1, 2, 3, 4};
        for (int k = 0; k < 5; k++) {
            Check.due("24 free " + k, free[k], x.busy(0, k));
            Check.due("24 marginal " + k, marginal[k], x.busy(2, k));
        }
    }

    /** Drivers of unlike classes change places for long; 52 is from a run, and Model's, too. */
    private static void manySteps() {
        TollWays x = new TollWays();
        x.towns(3);
        x.road(1, 2, 0, 10775, 16190, 41575, 2);
        x.road(1, 2, 0, 24495, 11759, 97496, 1);
        x.road(1, 0, 2, 1, 1, 1, 2);
        x.road(0, 1, 2, 14, 3, 9, 2);
        x.road(0, 1, 0, 113, 167, 214, 12);
        x.road(0, 1, 1, 48, 3, 25, 13);
        x.toll(4, 40383);
        x.toll(5, 30);
        Check.crowd(x, 0, 1, 12, 3, 0);
        Check.crowd(x, 1, 1, 12, 5, 8);
        Check.crowd(x, 2, 1, 12, 2, 4);
        Check.due("18 many steps", 52, x.steps(1));
    }

    /**
     * A net that was sought for its steps: it would take 410 until nobody gains, so that loads are
     * cut off behind 400. The answers are from a run of the class; ModelTest asks Model for them, too.
     */
    static TollWays netOfMostSteps() {
        TollWays x = new TollWays();
        x.towns(4);
        for (long[] r : MOST_STEPS) {
            int number = x.road((int) r[0], (int) r[1], (int) r[2], r[3], r[4], r[5], (int) r[6]);
            x.toll(number, r[7]);
        }
        Check.crowd(x, 0, 1, 12, 8, 1);
        Check.crowd(x, 1, 1, 12, 2, 9);
        Check.crowd(x, 2, 3, 12, 1, 9);
        return x;
    }

    private static void mostSteps() {
        TollWays x = netOfMostSteps();
        Check.due("18 no more than 400", 400, x.steps(1));
        Check.due("15 all the same", 1, x.is(1));
        Check.due("19 as loads are then", 41081, x.total(1));
        loads(x, 1, 13, 1, 12, 1, 1, 2, 18, 2, 1, 2, 3, 13);
    }
}
