/** Promises 25 to 32: the best, and roads and tolls in thought and truly. */
public final class ThoughtTest {
    private static final long BASE = 100_000_000_000_000_000L;
    private static final long SLOPE = 100_000_000_000_000L;
    private static final String BRAESS = "0>1=0+10;0>2=50+1;1>3=50+1;2>3=0+10;1>2=10+1";

    public static void main(String[] args) {
        best();
        worse();
        overAlone();
        without();
        nobodyThen();
        adding();
        wrong();
        fix();
        free();
        Check.finish();
    }

    private static void best() {
        TollWays x = Check.made(4, BRAESS);
        Check.due("25 nobody drives", 0, x.best());
        Check.crowd(x, 0, 3, 6, 1, 1);
        Check.due("25 braess", 498, x.best());
        x.drivers(0, 2, 9);
        x.toll(0, 1000);
        Check.due("25 times and tolls don't matter", 498, x.best());
        Check.crowd(x, 1, 5, 1, 1, 1);
        Check.due("25 no steady loads", Check.NO, x.best());
        // The second driver pushes the first back from the road between.
        x = Check.made(4, "0>1=1+0^1:900;0>2=5+0^1:900;1>3=5+0^1:900;2>3=1+0^1:900;1>2=1+0^1:900");
        Check.crowd(x, 0, 3, 1, 1, 1);
        Check.due("25 alone", 3, x.best());
        Check.crowd(x, 1, 3, 1, 1, 1);
        Check.due("25 both", 12, x.best());
        // Classes to unlike towns are pushed about, too.
        x = Check.made(3, "0>1=1+0^1:900;0>2=9;1>2=1;0>1=100");
        Check.crowd(x, 0, 2, 1, 1, 1);
        Check.due("25 by town 1", 2, x.best());
        Check.crowd(x, 1, 1, 1, 1, 1);
        Check.due("25 makes room", 10, x.best());
        x = new TollWays();
        x.road(0, 1, 2, BASE, SLOPE, SLOPE, 0);
        Check.crowd(x, 0, 1, 12, 9, 1);
        Check.due("25 great", 12 * (BASE + 24 * SLOPE), x.best());
    }

    private static void worse() {
        TollWays x = Check.made(4, BRAESS);
        Check.due("26 both are 0", 0, x.worse(1, 0));
        Check.due("26 by 1", 1, x.worse(1, 1));
        Check.crowd(x, 0, 3, 6, 1, 1);
        Check.due("26 above", 9, x.worse(0, 0));
        Check.due("26 below", 83, x.worse(0, 1));
        Check.due("26 as good", 0, x.worse(2, 0));
        Check.due("26 as good by 1", 1, x.worse(2, 1));
        x = Check.made(2, "0>1=0;0>1=1");
        Check.crowd(x, 0, 1, 3, 1, 1);
        x.toll(0, 100);
        Check.due("26 the best is 0", 0, x.best());
        Check.due("26 the total isn't", 3, x.total(1));
        Check.due("26 no fraction", Check.NO, x.worse(1, 0));
        Check.due("26 nor below", Check.NO, x.worse(1, 1));
        Check.due("26 both are 0 with drivers", 0, x.worse(0, 0));
        Check.due("26 by 1 with drivers", 1, x.worse(0, 1));
    }

    /** Steady loads whose total is beyond a long, though the best is not. */
    private static TollWays atTheEdge() {
        TollWays x = new TollWays();
        x.towns(4);
        x.road(0, 1, 0, BASE, 0, 0, 0);
        x.road(1, 2, 0, BASE, 0, 0, 0);
        x.road(2, 3, 1, 52_605_000_000_000_000L, SLOPE, 0, 0);
        x.road(2, 3, 0, 56_205_000_000_000_000L, 0, 0, 0);
        for (int cls = 0; cls < 3; cls++) {
            Check.crowd(x, cls, 3, 12, 1, 1);
        }
        return x;
    }

    private static void overAlone() {
        TollWays x = atTheEdge();
        Check.due("15 over", Check.OVER, x.is(0));
        Check.due("16 all on the first", 36, x.load(0, 2));
        Check.due("25 the best is not over", 9_190_980_000_000_000_000L, x.best());
        Check.due("15 marginal is not over", 1, x.is(2));
        Check.due("19 and best", 9_190_980_000_000_000_000L, x.total(2));
        Check.due("26 over", Check.NO, x.worse(0, 0));
        Check.due("26 marginal", 0, x.worse(2, 0));
        Check.due("27 over", Check.NO, x.without(0, 3));
        Check.due("28 over", Check.OVER, x.paradox(0, 3));
        Check.due("28 STATE ahead of OVER", Check.STATE, x.paradox(0, 1));
        Check.due("28 over then alone", Check.OVER, x.paradox(2, 3));
        Check.due("29 none", 0, x.paradoxes(0));
        Check.due("30 over", Check.NO, x.adding(0, 0, 3, 0, 0));
        Check.due("30 marginal", -9_190_980_000_000_000_000L, x.adding(2, 0, 3, 0, 0));
        Check.due("31 all the same", 1, x.fix());
        Check.due("31 as much as may be", 1_000_000_000L, x.of(2, 7));
        x.road(2, 1, 0, 1, 0, 0, 0);
        x.close(3);
        Check.due("25 over", Check.NO, x.best());
    }

    private static void without() {
        TollWays x = Check.made(4, BRAESS);
        Check.crowd(x, 0, 3, 6, 1, 1);
        Check.due("27 the road between", 498 - 552, x.without(0, 4));
        Check.due("27 marginal", 0, x.without(2, 4));
        Check.due("28 paradox", 1, x.paradox(0, 4));
        Check.due("28 none, marginal", 0, x.paradox(2, 4));
        Check.due("28 no paradox", 0, x.paradox(0, 0));
        Check.due("29 the one", 16, x.paradoxes(0));
        Check.due("29 none, marginal", 0, x.paradoxes(2));
        // Without road 0 all six go by road 1: 6 on roads 1 and 3.
        Check.due("27 a needed road", 6 * 56 + 6 * 60 - 552, x.without(0, 0));
        Check.due("27 nothing has changed", 552, x.total(0));
        Check.due("27 all roads are there", 5, x.told(1));
        x.close(4);
        x.road(0, 3, 0, 1000, 0, 0, 0);
        x.road(1, 2, 1, 10, 1, 0, 0);
        Check.due("29 another number", 32, x.paradoxes(0));
        Check.due("27 another number", -54, x.without(0, 5));
        x.toll(5, 1000);
        Check.due("29 tolled away", 0, x.paradoxes(1));
        Check.due("27 tolled away", 0, x.without(1, 5));
    }

    private static void nobodyThen() {
        TollWays x = Check.made(3, "0>1=1;1>2=1;0>2=100");
        Check.crowd(x, 0, 1, 2, 1, 1);
        Check.due("27 no way then", Check.NO, x.without(0, 0));
        Check.due("28 no way then", Check.STATE, x.paradox(0, 0));
        Check.due("28 as good without", 0, x.paradox(0, 1));
        Check.due("29 those with STATE are none", 0, x.paradoxes(0));
        Check.crowd(x, 1, 5, 1, 1, 1);
        Check.due("26 none now", Check.NO, x.worse(0, 0));
        Check.due("27 none now", Check.NO, x.without(0, 2));
        Check.due("28 none now", Check.STATE, x.paradox(0, 2));
        Check.due("29 none now", Check.STATE, x.paradoxes(0));
        Check.due("30 none now", Check.NO, x.adding(0, 0, 1, 0, 0));
        Check.due("31 none now", Check.STATE, x.fix());
        x = Check.made(3, "0>1=1");
        Check.crowd(x, 0, 2, 1, 1, 1);
        Check.due("30 a way then, but none now", Check.NO, x.adding(0, 1, 2, 0, 0));
    }

    private static void adding() {
        TollWays x = Check.made(4, "0>1=0+10;0>2=50+1;1>3=50+1;2>3=0+10");
        Check.crowd(x, 0, 3, 6, 1, 1);
        Check.due("30 dearer", 54, x.adding(0, 1, 2, 10, 1));
        Check.due("30 marginal", 0, x.adding(2, 1, 2, 10, 1));
        Check.due("30 of no use", 0, x.adding(0, 3, 0, 0, 0));
        Check.due("30 the greatest", 0, x.adding(0, 0, 3, BASE, SLOPE));
        Check.due("30 it isn't there", 4, x.told(1));
        Check.due("30 nothing has changed", 498, x.total(0));
        x = new TollWays();
        for (int k = 0; k < 12; k++) {
            x.road(0, 1, 0, 100, 0, 0, 0);
            x.toll(k, 50);
        }
        Check.crowd(x, 0, 1, 4, 1, 1);
        Check.due("30 a thirteenth", 4 * 99 - 400, x.adding(0, 0, 1, 95, 1));
        Check.due("30 it is sloped", 4 - 400, x.adding(0, 0, 1, 0, 0) + 4);
        Check.due("30 without toll", 4 * 149 - 400, x.adding(1, 0, 1, 145, 1));
        Check.due("30 free", 0, x.adding(0, 0, 1, 145, 1));
    }

    private static void wrong() {
        TollWays x = Check.made(3, "0>1=1");
        x.drivers(0, 1, 1);
        for (int number = -1; number < 4; number += 4) {
            Check.due("26 mode", Check.NO, x.worse(number, 0));
            Check.due("26 part", Check.NO, x.worse(0, number));
            Check.due("27 mode", Check.NO, x.without(number, 0));
            Check.due("27 road", Check.NO, x.without(0, number));
            Check.due("28 mode", Check.NONE, x.paradox(number, 0));
            Check.due("28 road", Check.NONE, x.paradox(0, number));
            Check.due("29 mode", Check.NONE, x.paradoxes(number));
            Check.due("30 mode", Check.NO, x.adding(number, 0, 1, 0, 0));
            Check.due("30 from", Check.NO, x.adding(0, number, 1, 0, 0));
            Check.due("30 to", Check.NO, x.adding(0, 0, number, 0, 0));
        }
        Check.due("26 part 2", Check.NO, x.worse(0, 2));
        Check.due("27 no such road", Check.NO, x.without(0, 1));
        Check.due("28 no such road", Check.NONE, x.paradox(0, 1));
        Check.due("30 alike", Check.NO, x.adding(0, 1, 1, 0, 0));
        Check.due("30 base below", Check.NO, x.adding(0, 0, 1, -1, 0));
        Check.due("30 base above", Check.NO, x.adding(0, 0, 1, BASE + 1, 0));
        Check.due("30 slope below", Check.NO, x.adding(0, 0, 1, 0, -1));
        Check.due("30 slope above", Check.NO, x.adding(0, 0, 1, 0, SLOPE + 1));
    }

    private static void fix() {
        TollWays x = Check.made(4, BRAESS);
        x.toll(4, 7);
        x.toll(2, 2);
        Check.crowd(x, 0, 3, 6, 1, 1);
        Check.due("31 four are otherwise", 4, x.fix());
        long[] due = {20, 2, 2, 20, 0};
        for (int r = 0; r < 5; r++) {
            Check.due("31 road " + r, due[r], x.of(r, 7));
        }
        Check.due("31 as they are", 0, x.fix());
        Check.due("31 steady by tolls", 498, x.total(1));
        Check.due("31 free is as before", 552, x.total(0));
        x = new TollWays();
        x.road(0, 1, 1, 0, 1_000_000_000L, 0, 0);
        x.road(0, 1, 1, 0, 999_999_999L, 0, 0);
        Check.crowd(x, 0, 1, 4, 1, 1);
        Check.due("31 two", 2, x.fix());
        Check.due("31 just as much", 1_000_000_000L, x.of(0, 7));
        Check.due("31 a bit less", 999_999_999L, x.of(1, 7));
        x.drivers(0, 1, 12);
        Check.due("31 one is otherwise", 1, x.fix());
        Check.due("31 no more than may be", 1_000_000_000L, x.of(1, 7));
        x.drivers(0, 1, 0);
        Check.due("31 nobody is there", 2, x.fix());
        Check.due("31 then none", 0, x.told(4));
    }

    private static void free() {
        TollWays x = Check.made(2, "0>1=1;0>1=2;0>1=3");
        Check.due("32 none", 0, x.free());
        x.toll(0, 1);
        x.toll(2, 5);
        Check.crowd(x, 0, 5, 1, 1, 1);
        Check.due("32 two were not", 2, x.free());
        Check.due("32 none are left", 0, x.told(4));
        Check.due("32 of the last", 0, x.of(2, 7));
    }
}
