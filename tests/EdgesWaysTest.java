/** Promises 13 to 24: a test for each sentence that names a boundary case. */
public final class EdgesWaysTest {
    public static void main(String[] args) throws Exception {
        Edges.run(EdgesWaysTest.class);
    }

    /** Two drivers on two roads that are as good; nobody on the third, which costs 50. */
    private static TollWays steady() {
        TollWays x = Check.made(2, "0>1=0+4;0>1=0+4;0>1=50+1");
        Check.crowd(x, 0, 1, 2, 3, 1);
        return x;
    }

    // ---- 13 ways, 14 way

    @Edge(promise = 13, says = "How many WAYS a CLASS has. NONE")
    static void waysOfNoClass() {
        TollWays x = Edges.parallel(2);
        for (int cls : Edges.outside(0, 2)) {
            Check.due("class " + cls, Check.NONE, x.ways(cls));
        }
        Check.due("the last class", 2, x.ways(2));
    }

    @Edge(promise = 13, says = "a TOWN that is there, when they drive")
    static void waysToATownThatIsNotThere() {
        TollWays x = Edges.parallel(2);
        x.drivers(0, 0, 2);
        Check.due("just behind the last", 0, x.ways(0));
        x.drivers(0, 0, 5);
        Check.due("far behind", 0, x.ways(0));
    }

    @Edge(promise = 13, says = "WAYS of a CLASS: rows of ROADS")
    static void waysWithoutRoads() {
        Check.due("none", 0, new TollWays().ways(0));
    }

    @Edge(promise = 13, says = "each but the first FROM where the one ahead leads TO, from TOWN 0 to TO")
    static void waysBeginInTownNought() {
        TollWays x = Check.made(3, "1>2=1");
        x.drivers(0, 0, 2);
        Check.due("none", 0, x.ways(0));
        Check.read(x, "0>1=1");
        Check.due("one", 1, x.ways(0));
    }

    @Edge(promise = 13, says = "that come to no TOWN twice")
    static void waysComeToNoTownTwice() {
        TollWays x = Check.made(3, "0>1=1;1>0=1;1>2=1;2>1=1;0>1=1");
        Check.due("to 1: not by 0, nor by 2 and back", 2, x.ways(0));
        x.drivers(0, 0, 2);
        Check.due("to 2", 2, x.ways(0));
    }

    @Edge(promise = 13, says = "ROADS, 12 at most")
    static void waysOfTwelveRoads() {
        Check.due("beside one another", 12, Edges.parallel(12).ways(0));
        TollWays x = Check.made(5, "0>1=1;0>1=1;0>1=1;1>2=1;1>2=1;1>2=1;2>3=1;2>3=1;2>3=1;3>4=1;3>4=1;3>4=1");
        x.drivers(0, 0, 4);
        Check.due("three times three times three times three", 81, x.ways(0));
        Check.due("the last one's last road", 11, x.way(0, 80, 3));
        Check.due("none behind it", Check.NONE, x.way(0, 81, -1));
    }

    @Edge(promise = 14, says = "NONE")
    static void wayOfNoClass() {
        TollWays x = Edges.parallel(2);
        for (int cls : Edges.outside(0, 2)) {
            Check.due("class " + cls, Check.NONE, x.way(cls, 0, 0));
        }
        Check.due("the last class", 0, x.way(2, 0, 0));
    }

    @Edge(promise = 14, says = "NONE")
    static void wayOfNoNumber() {
        TollWays x = Edges.parallel(2);
        for (int way : Edges.outside(0, 1)) {
            Check.due("way " + way, Check.NONE, x.way(0, way, 0));
            Check.due("length of way " + way, Check.NONE, x.way(0, way, -1));
        }
        Check.due("the last way", 1, x.way(0, 1, 0));
    }

    @Edge(promise = 14, says = "NONE")
    static void wayWithoutWays() {
        TollWays x = new TollWays();
        Check.due("there is none", Check.NONE, x.way(0, 0, -1));
        x = Edges.parallel(1);
        x.drivers(0, 0, 5);
        Check.due("nor to a town that isn't there", Check.NONE, x.way(0, 0, -1));
    }

    @Edge(promise = 14, says = "how many ROADS (k -1), the k-th. NONE")
    static void wayOfNoRoad() {
        TollWays x = Check.made(3, "1>2=1;0>1=1");
        x.drivers(0, 0, 2);
        for (int k : Edges.outside(-1, 1)) {
            Check.due("k " + k, Check.NONE, x.way(0, 0, k));
        }
        Check.due("how many", 2, x.way(0, 0, -1));
        Check.due("the first", 1, x.way(0, 0, 0));
        Check.due("the last", 0, x.way(0, 0, 1));
    }

    @Edge(promise = 14, says = "numbered: with fewer ROADS first")
    static void wayOfFewerRoadsFirst() {
        TollWays x = Check.made(3, "0>1=1;1>2=1;0>2=1");
        x.drivers(0, 0, 2);
        Check.due("one road, though of a greater number", 2, x.way(0, 0, 0));
        Check.due("two roads", 0, x.way(0, 1, 0));
    }

    @Edge(promise = 14, says = "of as many by the first ROAD that is unlike, the lesser number first")
    static void wayOfLesserRoadsFirst() {
        TollWays x = Check.made(3, "1>2=1;0>1=1;1>2=1;0>1=1");
        x.drivers(0, 0, 2);
        int[][] due = {{1, 0}, {1, 2}, {3, 0}, {3, 2}};
        for (int way = 0; way < 4; way++) {
            Check.due("first of way " + way, due[way][0], x.way(0, way, 0));
            Check.due("second of way " + way, due[way][1], x.way(0, way, 1));
        }
    }

    // ---- 15 is

    @Edge(promise = 15, says = "NONE: mode")
    static void isOfNoMode() {
        for (int mode : Edges.outside(0, 2)) {
            Check.due("mode " + mode, Check.NONE, steady().is(mode));
        }
        Check.due("the last mode", 1, steady().is(2));
    }

    @Edge(promise = 15, says = "STATE: none; OVER")
    static void isWithoutWay() {
        for (int mode = 0; mode < 3; mode++) {
            Check.due("mode " + mode, Check.STATE, Edges.stuck().is(mode));
        }
    }

    @Edge(promise = 15, says = "There is none, if a CLASS with MANY above 0 has no WAY")
    static void isWithoutWayAndDrivers() {
        TollWays x = Edges.stuck();
        x.drivers(1, 1, 0);
        Check.due("nobody wants there", 1, x.is(0));
        x.drivers(1, 1, 1);
        Check.due("one does", Check.STATE, x.is(0));
        x = Edges.parallel(1);
        x.drivers(2, 0, 4);
        x.drivers(2, 1, 1);
        Check.due("of the last class alone", Check.STATE, x.is(0));
    }

    @Edge(promise = 15, says = "(its TO isn't there, too)")
    static void isToATownThatIsNotThere() {
        TollWays x = Edges.parallel(1);
        Check.crowd(x, 0, 2, 1, 1, 1);
        Check.due("just behind the last", Check.STATE, x.is(0));
        x.drivers(0, 0, 1);
        Check.due("the last", 1, x.is(0));
    }

    @Edge(promise = 15, says = "without DRIVERS all LOADS are 0 and is() tells 1")
    static void isWithoutDrivers() {
        TollWays x = Edges.parallel(2);
        for (int mode = 0; mode < 3; mode++) {
            Check.due("mode " + mode, 1, x.is(mode));
            Check.due("the first", 0, x.load(mode, 0));
            Check.due("the last", 0, x.load(mode, 1));
            Check.due("without roads", 1, new TollWays().is(mode));
        }
    }

    @Edge(promise = 15, says = "OVER: there are, but TOTAL is OVER")
    static void isJustOver() {
        for (int mode = 0; mode < 3; mode++) {
            Check.due("just within, mode " + mode, 1, Edges.nearOver(7).is(mode));
            Check.due("just over, mode " + mode, Check.OVER, Edges.nearOver(8).is(mode));
        }
    }

    @Edge(promise = 15, says = "OVER: there are, but TOTAL is OVER")
    static void isFarOver() {
        Check.due("over", Check.OVER, Edges.farOver().is(0));
        Check.due("marginal", Check.OVER, Edges.farOver().is(2));
        TollWays x = Edges.farOver();
        x.drivers(2, 1, 0);
        Check.due("24 of them", Check.OVER, x.is(0));
        x.drivers(1, 1, 5);
        Check.due("17 of them", 1, x.is(0));
    }

    @Edge(promise = 15, says = "Behind 400 STEPS LOADS are as they are then, and is() tells 1 all the same")
    static void isBehindAllSteps() {
        TollWays x = WaysTest.netOfMostSteps();
        Check.due("steady", 1, x.is(1));
        Check.due("as they are then", 13, x.load(1, 0));
        Check.due("and the last", 13, x.load(1, 11));
        Check.due("their total", 41081, x.total(1));
    }

    // ---- 16 load

    @Edge(promise = 16, says = "NONE: mode")
    static void loadOfNoMode() {
        for (int mode : Edges.outside(0, 2)) {
            Check.due("mode " + mode, Check.NONE, steady().load(mode, 0));
        }
        Check.due("the last mode", 1, steady().load(2, 0));
    }

    @Edge(promise = 16, says = "NONE: mode, road")
    static void loadOfNoRoad() {
        TollWays x = steady();
        for (int road : Edges.outside(0, 2)) {
            Check.due("road " + road, Check.NONE, x.load(0, road));
        }
        Check.due("the last road", 0, x.load(0, 2));
    }

    @Edge(promise = 16, says = "STATE: none")
    static void loadWithoutWay() {
        Check.due("none", Check.STATE, Edges.stuck().load(0, 0));
        Check.due("NONE ahead of STATE", Check.NONE, Edges.stuck().load(0, 2));
        Check.due("mode ahead of STATE", Check.NONE, Edges.stuck().load(3, 0));
    }

    @Edge(promise = 16, says = "MANY (0 .. 12")
    static void loadOfAll() {
        TollWays x = Edges.parallel(1);
        for (int cls = 0; cls < 3; cls++) {
            Check.crowd(x, cls, 1, 12, 1, 1);
        }
        Check.due("all 36", 36, x.load(0, 0));
        x = Edges.parallel(1);
        x.drivers(0, 1, 1);
        Check.due("one alone", 1, x.load(0, 0));
    }

    @Edge(promise = 16, says = "on the WAY with the least PRICE (with that one on it), of several the first")
    static void loadOfSeveralLeast() {
        TollWays x = Check.made(2, "0>1=9;0>1=4+1;0>1=5;0>1=3+2");
        Check.crowd(x, 0, 1, 1, 1, 1);
        Check.due("the first of three that cost 5", 1, x.load(0, 1));
        x.drivers(0, 1, 2);
        Check.due("the next, when it costs 6", 1, x.load(0, 2));
        Check.due("not the last", 0, x.load(0, 3));
    }

    // ---- 17 on

    @Edge(promise = 17, says = "NONE: mode")
    static void onOfNoMode() {
        for (int mode : Edges.outside(0, 2)) {
            Check.due("mode " + mode, Check.NONE, steady().on(mode, 0, 0));
        }
        Check.due("the last mode", 1, steady().on(2, 0, 0));
    }

    @Edge(promise = 17, says = "NONE: mode, cls")
    static void onOfNoClass() {
        TollWays x = steady();
        for (int cls : Edges.outside(0, 2)) {
            Check.due("class " + cls, Check.NONE, x.on(0, cls, 0));
        }
        Check.due("the last class, without drivers", 0, x.on(0, 2, 0));
    }

    @Edge(promise = 17, says = "NONE: mode, cls, way")
    static void onOfNoWay() {
        TollWays x = steady();
        for (int way : Edges.outside(0, 2)) {
            Check.due("way " + way, Check.NONE, x.on(0, 0, way));
        }
        Check.due("the last way", 0, x.on(0, 0, 2));
        x.drivers(1, 0, 5);
        Check.due("without ways", Check.NONE, x.on(0, 1, 0));
    }

    @Edge(promise = 17, says = "STATE: none")
    static void onWithoutWay() {
        Check.due("none", Check.STATE, Edges.stuck().on(0, 0, 0));
        Check.due("mode ahead of STATE", Check.NONE, Edges.stuck().on(3, 0, 0));
        Check.due("class ahead of STATE", Check.NONE, Edges.stuck().on(0, 3, 0));
        Check.due("way ahead of STATE", Check.NONE, Edges.stuck().on(0, 1, 0));
    }

    // ---- 18 steps

    @Edge(promise = 18, says = "NONE: mode")
    static void stepsOfNoMode() {
        for (int mode : Edges.outside(0, 2)) {
            Check.due("mode " + mode, Check.NONE, steady().steps(mode));
        }
        Check.due("the last mode", 0, steady().steps(2));
    }

    @Edge(promise = 18, says = "STATE: none")
    static void stepsWithoutWay() {
        Check.due("none", Check.STATE, Edges.stuck().steps(0));
        Check.due("mode ahead of STATE", Check.NONE, Edges.stuck().steps(3));
    }

    @Edge(promise = 18, says = "would one of these pay less on another WAY")
    static void stepsNotToOneAsDear() {
        // Both take road 0 for 5 and 10; each would pay 10 on road 1 as well as on road 0.
        TollWays x = Check.made(2, "0>1=0+5;0>1=10");
        Check.crowd(x, 0, 1, 2, 1, 1);
        Check.due("none", 0, x.steps(0));
        Check.due("both stay", 2, x.load(0, 0));
    }

    @Edge(promise = 18, says = "(on which that one would be, and no more on the one that was left)")
    static void stepsAreWithThatOneOnIt() {
        // Road 1 costs 5 with the one there, but 10 with the other, too, who pays 6.
        TollWays x = Check.made(2, "0>1=6;0>1=0+5");
        Check.crowd(x, 0, 1, 2, 1, 1);
        Check.due("one on each", 1, x.load(0, 0));
        Check.due("nobody steps", 0, x.steps(0));
    }

    @Edge(promise = 18, says = "(on which that one would be, and no more on the one that was left)")
    static void stepsLeaveSharedRoadsAsTheyAre() {
        // Class 1 minds the toll of road 2 and comes by roads 3 and 1. So class 0 pays 10 and 20 on
        // roads 0 and 1, and steps to roads 0 and 2 for 10 and 15: on road 0 it is still alone.
        TollWays x = Check.made(3, "0>1=0+10;1>2=0+10;1>2=15;0>1=6+6");
        x.toll(2, 100);
        Check.crowd(x, 0, 2, 1, 1, 0);
        Check.crowd(x, 1, 2, 1, 1, 9);
        Check.due("one step", 1, x.steps(1));
        int[] due = {1, 1, 1, 1};
        for (int r = 0; r < 4; r++) {
            Check.due("load of road " + r, due[r], x.load(1, r));
        }
        Check.due("price", 25, x.price(1, 0, 1, 0));
    }

    @Edge(promise = 18, says = "The first such one goes to the WAY with the least PRICE, of several the first")
    static void stepsToTheFirstOfSeveral() {
        // As ahead, but road 4 is as good as road 2.
        TollWays x = Check.made(3, "0>1=0+10;1>2=0+10;1>2=15;0>1=6+6;1>2=15");
        x.toll(2, 100);
        x.toll(4, 100);
        Check.crowd(x, 0, 2, 1, 1, 0);
        Check.crowd(x, 1, 2, 1, 1, 9);
        Check.due("one step", 1, x.steps(1));
        Check.due("to the first", 1, x.load(1, 2));
        Check.due("not to the second", 0, x.load(1, 4));
    }

    @Edge(promise = 18, says = "until there is none, or 400 STEPS were done")
    static void stepsAtMost() {
        Check.due("of some 410", 400, WaysTest.netOfMostSteps().steps(1));
    }

    @Edge(promise = 18, says = "without DRIVERS all LOADS are 0")
    static void stepsWithoutDrivers() {
        Check.due("none", 0, Edges.parallel(2).steps(0));
        Check.due("without roads", 0, new TollWays().steps(1));
    }

    // ---- 19 total

    @Edge(promise = 19, says = "NO")
    static void totalOfNoMode() {
        for (int mode : Edges.outside(0, 2)) {
            Check.due("mode " + mode, Check.NO, steady().total(mode));
        }
        Check.due("the last mode", 8, steady().total(2));
    }

    @Edge(promise = 19, says = "NO, where a long is asked: also if there are no STEADY LOADS")
    static void totalWithoutWay() {
        Check.due("none", Check.NO, Edges.stuck().total(0));
    }

    @Edge(promise = 19, says = "OVER (-6), if a product, or a sum so far, would be beyond a long")
    static void totalJustOver() {
        Check.due("just within", Edges.MOST, Edges.nearOver(7).total(0));
        Check.due("just over", Check.NO, Edges.nearOver(8).total(0));
    }

    @Edge(promise = 19, says = "OVER (-6), if a product, or a sum so far, would be beyond a long")
    static void totalOverOnTheWay() {
        Check.due("over by more than 2^63", Check.NO, Edges.farOver().total(0));
        Check.due("tolled", Check.NO, Edges.farOver().total(1));
    }

    @Edge(promise = 19, says = "without DRIVERS all LOADS are 0")
    static void totalWithoutDrivers() {
        Check.due("nothing", 0, Edges.parallel(2).total(1));
    }

    // ---- 20 price

    @Edge(promise = 20, says = "NO: mode")
    static void priceOfNoMode() {
        for (int mode : Edges.outside(0, 2)) {
            Check.due("mode " + mode, Check.NO, steady().price(mode, 0, 0, 0));
        }
        Check.due("the last mode", 3 * 4, steady().price(2, 0, 0, 0));
    }

    @Edge(promise = 20, says = "NO: mode, cls")
    static void priceOfNoClass() {
        TollWays x = steady();
        for (int cls : Edges.outside(0, 2)) {
            Check.due("class " + cls, Check.NO, x.price(0, cls, 0, 0));
        }
        Check.due("the last class, without drivers", 4, x.price(0, 2, 0, 0));
    }

    @Edge(promise = 20, says = "NO: mode, cls, way")
    static void priceOfNoWay() {
        TollWays x = steady();
        for (int way : Edges.outside(0, 2)) {
            Check.due("way " + way, Check.NO, x.price(0, 0, way, 0));
        }
        x.drivers(1, 0, 5);
        Check.due("without ways", Check.NO, x.price(0, 1, 0, 0));
    }

    @Edge(promise = 20, says = "NO: mode, cls, way, who")
    static void priceOfNobody() {
        TollWays x = steady();
        for (int who : Edges.outside(0, 1)) {
            Check.due("who " + who, Check.NO, x.price(0, 0, 0, who));
        }
    }

    @Edge(promise = 20, says = "NO, where a long is asked: also if there are no STEADY LOADS")
    static void priceWithoutWay() {
        Check.due("none", Check.NO, Edges.stuck().price(0, 0, 0, 0));
        Check.due("one more", Check.NO, Edges.stuck().price(0, 0, 0, 1));
    }

    @Edge(promise = 20, says = "nobody need be: all ROADS with as many as are on them, those with nobody as with one")
    static void priceWhereNobodyIs() {
        TollWays x = steady();
        Check.due("as with one", 3 * 51, x.price(0, 0, 2, 0));
        Check.due("one more than nobody is one", 3 * 51, x.price(0, 0, 2, 1));
        Check.due("marginal, nobody loses", 3 * 51, x.price(2, 0, 2, 0));
        // A way over a road with two on it, and one with nobody.
        x = Check.made(3, "0>1=0+10;1>2=0+1;1>2=7+2");
        Check.crowd(x, 0, 2, 1, 1, 1);
        Check.crowd(x, 1, 1, 1, 1, 1);
        Check.due("two and nobody", 20 + 9, x.price(0, 0, 1, 0));
        Check.due("one more on each", 30 + 9, x.price(0, 0, 1, 1));
    }

    @Edge(promise = 20, says = "one more (1)")
    static void priceOfOneMoreThanAll() {
        TollWays x = Check.made(2, "0>1=0+1^36:100");
        for (int cls = 0; cls < 3; cls++) {
            Check.crowd(x, cls, 1, 12, 1, 1);
        }
        Check.due("of 36", 36, x.price(0, 0, 0, 0));
        Check.due("of 37, above the knee", 37 + 100, x.price(0, 0, 0, 1));
        Check.due("marginal of 37", 137 + 36 * 101, x.price(2, 0, 0, 1));
    }

    @Edge(promise = 20, says = "PRICES are whole numbers without a bound that they come to")
    static void priceOfTheGreatest() {
        TollWays x = Edges.farOver();
        long cost = Edges.BASE + 37 * 2 * Edges.SLOPE;
        long loss = 36 * 2 * Edges.SLOPE;
        Check.due("marginal, one more", 45 * (cost + loss), x.price(2, 0, 0, 1));
        Check.due("though all together is over", Check.OVER, x.is(2));
    }

    @Edge(promise = 20, says = "TOLLED: that, and MONEY times TOLL")
    static void priceOfTollsWithoutMoney() {
        TollWays x = Check.made(2, "0>1=5");
        x.toll(0, 1_000_000_000L);
        Check.crowd(x, 0, 1, 1, 1, 0);
        Check.due("money 0", 5, x.price(1, 0, 0, 0));
        x.drivers(0, 3, 9);
        Check.due("money 9", 9_000_000_005L, x.price(1, 0, 0, 0));
    }

    // ---- 21 mean

    @Edge(promise = 21, says = "NO: mode")
    static void meanOfNoMode() {
        for (int mode : Edges.outside(0, 2)) {
            Check.due("mode " + mode, Check.NO, steady().mean(mode, 0, 0));
        }
        Check.due("the last mode", 12, steady().mean(2, 0, 0));
    }

    @Edge(promise = 21, says = "NO: mode, cls")
    static void meanOfNoClass() {
        for (int cls : Edges.outside(0, 2)) {
            Check.due("class " + cls, Check.NO, steady().mean(0, cls, 0));
        }
    }

    @Edge(promise = 21, says = "NO: mode, cls, part")
    static void meanOfNoPart() {
        for (int part : Edges.outside(0, 1)) {
            Check.due("part " + part, Check.NO, steady().mean(0, 0, part));
        }
        Check.due("the last part", 1, steady().mean(0, 0, 1));
    }

    @Edge(promise = 21, says = "MANY is 0")
    static void meanOfNobody() {
        TollWays x = steady();
        Check.due("above", Check.NO, x.mean(0, 1, 0));
        Check.due("below", Check.NO, x.mean(0, 1, 1));
        x.drivers(1, 1, 1);
        Check.due("of one", 8, x.mean(0, 1, 0));
    }

    @Edge(promise = 21, says = "NO, where a long is asked: also if there are no STEADY LOADS")
    static void meanWithoutWay() {
        Check.due("of those who could", Check.NO, Edges.stuck().mean(0, 0, 0));
        Check.due("of the one who can't", Check.NO, Edges.stuck().mean(0, 1, 0));
    }

    @Edge(promise = 21, says = "what is paid together is OVER (by WAYS: each product, each sum so far)")
    static void meanJustOver() {
        // Seven pay 7 times 188,232,082,384,791,343 each: together 2^63 less 1.
        TollWays x = new TollWays();
        x.towns(3);
        x.road(0, 1, 0, Edges.BASE, 0, 0, 0);
        x.road(1, 2, 0, 88_232_082_384_791_343L, 0, 0, 0);
        Check.crowd(x, 0, 2, 7, 7, 1);
        Check.due("just within", 1_317_624_576_693_539_401L, x.mean(0, 0, 0));
        Check.due("by one", 1, x.mean(0, 0, 1));
        x.close(1);
        x.road(1, 2, 0, 88_232_082_384_791_344L, 0, 0, 0);
        Check.due("just over", Check.NO, x.mean(0, 0, 0));
        Check.due("just over, below", Check.NO, x.mean(0, 0, 1));
    }

    @Edge(promise = 21, says = "what is paid together is OVER (by WAYS: each product, each sum so far)")
    static void meanOfWaysIsOver() {
        // Six and six pay some 9 * 10^17 each: each product is within, their sum is not.
        TollWays x = new TollWays();
        x.road(0, 1, 2, Edges.BASE - 1, 0, 2, 6);
        x.road(0, 1, 0, Edges.BASE, 0, 0, 0);
        Check.crowd(x, 0, 1, 12, 9, 1);
        Check.due("six on the first", 6, x.on(0, 0, 0));
        Check.due("six on the second", 6, x.on(0, 0, 1));
        Check.due("their sum is over", Check.NO, x.mean(0, 0, 0));
        Check.due("their sum is over, below", Check.NO, x.mean(0, 0, 1));
        x.drivers(0, 1, 10);
        Check.due("six on the first of ten", 6, x.on(0, 0, 0));
        // 6 times (9 * 10^17 less 9) and 4 times 9 * 10^17, by 10: 9 * 10^18 less 54, by 10.
        Check.due("ten pay less than 2^63", 4_499_999_999_999_999_973L, x.mean(0, 0, 0));
        Check.due("by five", 5, x.mean(0, 0, 1));
    }

    @Edge(promise = 21, says = "what is paid together is OVER (by WAYS: each product, each sum so far)")
    static void meanOfOneWayIsOver() {
        TollWays x = new TollWays();
        x.road(0, 1, 0, Edges.BASE, 0, 0, 0);
        Check.crowd(x, 0, 1, 11, 9, 1);
        Check.due("eleven times 9 * 10^17", Check.NO, x.mean(0, 0, 0));
        Check.due("though total isn't over", 11 * Edges.BASE, x.total(0));
        x.drivers(0, 1, 10);
        Check.due("ten times", 9 * Edges.BASE, x.mean(0, 0, 0));
    }

    @Edge(promise = 21, says = "what is paid together is OVER (by WAYS: each product, each sum so far)")
    static void meanThoughTotalIsOver() {
        Check.due("total is over", Check.OVER, Edges.nearOver(8).is(0));
        Check.due("what one of them pays isn't", 368_934_881_474_191_040L, Edges.nearOver(8).mean(0, 2, 0));
    }

    @Edge(promise = 21, says = "Fractions are told in lowest terms")
    static void meanInLowestTerms() {
        // Three pay 6 each, and one 7: 25 by 4; two times as dear: 50 by 4.
        TollWays x = Check.made(2, "0>1=0+2;0>1=7");
        Check.crowd(x, 0, 1, 4, 2, 1);
        Check.due("above", 25, x.mean(0, 0, 0));
        Check.due("below", 2, x.mean(0, 0, 1));
    }

    @Edge(promise = 21, says = "Fractions are told in lowest terms")
    static void meanOfNothing() {
        TollWays x = Check.made(2, "0>1=0");
        Check.crowd(x, 0, 1, 12, 9, 9);
        Check.due("0", 0, x.mean(0, 0, 0));
        Check.due("by 1", 1, x.mean(0, 0, 1));
    }

    // ---- 22 shown

    @Edge(promise = 22, says = "NONE: mode")
    static void shownOfNoMode() {
        for (int mode : Edges.outside(0, 2)) {
            Check.due("mode " + mode, Check.NONE, steady().shown(mode, 0));
        }
        Check.due("the last mode", Float.floatToIntBits(12f), steady().shown(2, 0));
    }

    @Edge(promise = 22, says = "NONE: mode, cls")
    static void shownOfNoClass() {
        for (int cls : Edges.outside(0, 2)) {
            Check.due("class " + cls, Check.NONE, steady().shown(0, cls));
        }
    }

    @Edge(promise = 22, says = "STATE: none")
    static void shownWithoutWay() {
        Check.due("none", Check.STATE, Edges.stuck().shown(0, 0));
        Check.due("mode ahead of STATE", Check.NONE, Edges.stuck().shown(3, 0));
        Check.due("class ahead of STATE", Check.NONE, Edges.stuck().shown(0, 3));
    }

    @Edge(promise = 22, says = "STATE: none, MANY is 0")
    static void shownOfNobody() {
        Check.due("nobody", Check.STATE, steady().shown(0, 1));
        Check.due("mode ahead of STATE", Check.NONE, steady().shown(-1, 1));
    }

    @Edge(promise = 22, says = "f is 0 at first")
    static void shownOfNothing() {
        TollWays x = Check.made(2, "0>1=0");
        Check.crowd(x, 0, 1, 12, 9, 9);
        Check.due("nothing is paid", 0, x.shown(0, 0));
    }

    @Edge(promise = 22, says = "(floats, from left to right, each step nearest)")
    static void shownNearest() {
        // 2^24 and 1 lies in the midst of two floats: the even one is told; 2^24 and 3 likewise.
        Check.due("down", Float.floatToIntBits(16_777_216f), shownOf(16_777_217L, 1));
        Check.due("up", Float.floatToIntBits(16_777_220f), shownOf(16_777_219L, 1));
        // 11 times 1525203 is rounded, and then its eleventh: an eighth below 1525203.
        Check.due("the product too", Float.floatToIntBits(1_525_202.875f), shownOf(1_525_203L, 11));
    }

    private static int shownOf(long base, int many) {
        TollWays x = new TollWays();
        x.road(0, 1, 0, base, 0, 0, 0);
        Check.crowd(x, 0, 1, many, 1, 1);
        return x.shown(0, 0);
    }

    @Edge(promise = 22, says = "for WAYS on which some of it are, by numbers")
    static void shownBySums() {
        // Two pay 7, and one 8: 4.6666665 and 2.6666667, whose sum is a bit below 7 and a third.
        TollWays x = Check.made(2, "0>1=7+0^2:100;0>1=8");
        Check.crowd(x, 0, 1, 3, 1, 1);
        Check.due("two on the first", 2, x.load(0, 0));
        float f = 0f + 7f * 2f / 3f;
        f = f + 8f * 1f / 3f;
        Check.due("by ways", Float.floatToIntBits(f), x.shown(0, 0));
        Check.that("it is not the nearest of 22 by 3", f != (float) (22.0 / 3.0));
    }

    @Edge(promise = 22, says = "its bits (as an int)")
    static void shownOfTheLeast() {
        // Eleven pay nothing, and one who found no room pays 1.
        TollWays x = Check.made(2, "0>1=0+0^11:100;0>1=1");
        Check.crowd(x, 0, 1, 12, 1, 1);
        Check.due("eleven on the first", 11, x.load(0, 0));
        Check.due("one twelfth", Float.floatToIntBits(1f / 12f), x.shown(0, 0));
    }

    @Edge(promise = 22, says = "its bits (as an int)")
    static void shownOfTheGreatest() {
        TollWays x = Edges.farOver();
        float price = 45L * (Edges.BASE + 72 * Edges.SLOPE + 70 * Edges.SLOPE);
        Check.due("the greatest", Float.floatToIntBits(price * 12f / 12f), x.shown(2, 0));
    }

    @Edge(promise = 22, says = "its bits (as an int)")
    static void shownAroundOne() {
        Check.due("1", Float.floatToIntBits(1f), shownOf(1, 1));
        Check.due("2", Float.floatToIntBits(2f), shownOf(2, 1));
        Check.due("3", Float.floatToIntBits(3f), shownOf(3, 1));
        Check.due("the last below 2^24", Float.floatToIntBits(16_777_215f), shownOf(16_777_215L, 1));
    }

    // ---- 23 taken

    @Edge(promise = 23, says = "NO: mode")
    static void takenOfNoMode() {
        for (int mode : Edges.outside(0, 2)) {
            Check.due("mode " + mode, Check.NO, steady().taken(mode));
        }
        Check.due("the last mode", 0, steady().taken(2));
    }

    @Edge(promise = 23, says = "NO, where a long is asked: also if there are no STEADY LOADS")
    static void takenWithoutWay() {
        for (int mode = 0; mode < 3; mode++) {
            Check.due("mode " + mode, Check.NO, Edges.stuck().taken(mode));
        }
    }

    @Edge(promise = 23, says = "FREE: 0")
    static void takenFree() {
        TollWays x = Check.made(2, "0>1=0+5");
        x.toll(0, 7);
        Check.crowd(x, 0, 1, 3, 1, 1);
        Check.due("free", 0, x.taken(0));
        Check.due("tolled", 21, x.taken(1));
        Check.due("marginal", 3 * 2 * 5, x.taken(2));
    }

    @Edge(promise = 23, says = "TOLLED: LOAD times TOLL; MARGINAL: LOAD times LOSS")
    static void takenWhereNobodyIs() {
        TollWays x = Check.made(2, "0>1=1;0>1=1+1");
        x.toll(0, 2);
        x.toll(1, 1_000_000_000L);
        Check.crowd(x, 0, 1, 4, 1, 1);
        Check.due("nobody is on the second", 8, x.taken(1));
        Check.due("one alone loses nothing", 0, x.taken(2));
        x.drivers(0, 1, 0);
        Check.due("without drivers", 0, x.taken(1));
        Check.due("without drivers, marginal", 0, x.taken(2));
    }

    @Edge(promise = 23, says = "(it is OVER like TOTAL)")
    static void takenOfTheMost() {
        TollWays x = Edges.farOver();
        for (int t = 0; t < 5; t++) {
            x.toll(t, 1_000_000_000L);
        }
        Check.due("total is over", Check.OVER, x.is(2));
        Check.due("what is taken isn't", 5 * 36 * 70 * Edges.SLOPE, x.taken(2));
        Check.due("tolled", 5 * 36 * 1_000_000_000L, x.taken(1));
    }

    // ---- 24 busy

    @Edge(promise = 24, says = "NONE: mode")
    static void busyOfNoMode() {
        for (int mode : Edges.outside(0, 2)) {
            Check.due("mode " + mode, Check.NONE, steady().busy(mode, 0));
        }
        Check.due("the last mode", 0, steady().busy(2, 0));
    }

    @Edge(promise = 24, says = "NONE: mode, k")
    static void busyOfNoNumber() {
        TollWays x = steady();
        for (int k : Edges.outside(0, 2)) {
            Check.due("k " + k, Check.NONE, x.busy(0, k));
        }
        Check.due("the last", 2, x.busy(0, 2));
        Check.due("without roads", Check.NONE, new TollWays().busy(0, 0));
    }

    @Edge(promise = 24, says = "STATE: none")
    static void busyWithoutWay() {
        Check.due("none", Check.STATE, Edges.stuck().busy(0, 1));
        Check.due("k ahead of STATE", Check.NONE, Edges.stuck().busy(0, 2));
        Check.due("mode ahead of STATE", Check.NONE, Edges.stuck().busy(3, 0));
    }

    @Edge(promise = 24, says = "the greatest first, of like ones the least")
    static void busyOfLikeOnes() {
        TollWays x = Check.made(2, "0>1=90;0>1=0+4;0>1=80;0>1=0+4;0>1=0+1");
        Check.crowd(x, 0, 1, 6, 1, 1);
        int[] due = {4, 1, 3, 0, 2};
        for (int k = 0; k < 5; k++) {
            Check.due("k " + k, due[k], x.busy(0, k));
        }
        x.drivers(0, 1, 0);
        for (int k = 0; k < 5; k++) {
            Check.due("nobody drives, k " + k, k, x.busy(0, k));
        }
    }
}
