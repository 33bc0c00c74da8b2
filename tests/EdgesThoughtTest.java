/** Promises 25 to 32: a test for each sentence that names a boundary case. */
public final class EdgesThoughtTest {
    private static final String BRAESS = "0>1=0+10;0>2=50+1;1>3=50+1;2>3=0+10;1>2=10+1";

    public static void main(String[] args) throws Exception {
        Edges.run(EdgesThoughtTest.class);
    }

    /** Six drivers who are better off without road 4. */
    private static TollWays braess() {
        TollWays x = Check.made(4, BRAESS);
        Check.crowd(x, 0, 3, 6, 1, 1);
        return x;
    }

    // ---- 25 best

    @Edge(promise = 25, says = "BEST. NO")
    static void bestWithoutWay() {
        Check.due("none", Check.NO, Edges.stuck().best());
        TollWays x = Edges.parallel(1);
        Check.crowd(x, 2, 5, 1, 1, 1);
        Check.due("to a town that isn't there", Check.NO, x.best());
    }

    @Edge(promise = 25, says = "(as a whole number without bound; OVER, if it would be beyond a long)")
    static void bestJustOver() {
        Check.due("just within", Edges.MOST, Edges.nearOver(7).best());
        Check.due("just over", Check.NO, Edges.nearOver(8).best());
    }

    @Edge(promise = 25, says = "(as a whole number without bound; OVER, if it would be beyond a long)")
    static void bestFarOver() {
        Check.due("over by more than 2^63", Check.NO, Edges.farOver().best());
    }

    @Edge(promise = 25, says = "the least TOTAL that there is for any choice of WAYS of all DRIVERS")
    static void bestThoughTotalIsOver() {
        TollWays x = Edges.overByToll();
        Check.due("the total is over", Check.OVER, x.is(1));
        Check.due("the best is not", Edges.MOST, x.best());
    }

    @Edge(promise = 25, says = "the least TOTAL that there is for any choice of WAYS of all DRIVERS")
    static void bestWithoutDrivers() {
        Check.due("without roads", 0, new TollWays().best());
        Check.due("with roads", 0, Edges.parallel(2).best());
    }

    @Edge(promise = 25, says = "the least TOTAL that there is for any choice of WAYS of all DRIVERS")
    static void bestWhereOneMustMakeRoom() {
        // Alone one goes by roads 0, 4, 3; a second one pushes the first off road 4.
        TollWays x = Check.made(4, "0>1=1+0^1:900;0>2=5+0^1:900;1>3=5+0^1:900;2>3=1+0^1:900;1>2=1+0^1:900");
        Check.crowd(x, 0, 3, 1, 1, 1);
        Check.due("one", 3, x.best());
        x.drivers(0, 1, 2);
        Check.due("two", 12, x.best());
    }

    // ---- 26 worse

    @Edge(promise = 26, says = "NO: mode")
    static void worseOfNoMode() {
        for (int mode : Edges.outside(0, 2)) {
            Check.due("mode " + mode, Check.NO, braess().worse(mode, 0));
        }
        Check.due("the last mode", 0, braess().worse(2, 0));
    }

    @Edge(promise = 26, says = "NO: mode, part")
    static void worseOfNoPart() {
        for (int part : Edges.outside(0, 1)) {
            Check.due("part " + part, Check.NO, braess().worse(0, part));
            Check.due("where both are 0, part " + part, Check.NO, new TollWays().worse(0, part));
        }
        Check.due("the last part", 83, braess().worse(0, 1));
    }

    @Edge(promise = 26, says = "(0 by 1, if both are 0)")
    static void worseOfNothing() {
        TollWays x = new TollWays();
        Check.due("0", 0, x.worse(0, 0));
        Check.due("by 1", 1, x.worse(0, 1));
        x = Check.made(2, "0>1=0");
        Check.crowd(x, 0, 1, 12, 1, 1);
        Check.due("0 with drivers", 0, x.worse(0, 0));
        Check.due("by 1 with drivers", 1, x.worse(0, 1));
    }

    @Edge(promise = 26, says = "BEST is 0 and TOTAL isn't")
    static void worseThanNothing() {
        TollWays x = Check.made(2, "0>1=0;0>1=1");
        Check.crowd(x, 0, 1, 3, 1, 1);
        x.toll(0, 100);
        Check.due("best", 0, x.best());
        Check.due("total", 3, x.total(1));
        Check.due("above", Check.NO, x.worse(1, 0));
        Check.due("below", Check.NO, x.worse(1, 1));
    }

    @Edge(promise = 26, says = "BEST is 0 and TOTAL isn't; OVER")
    static void worseOver() {
        TollWays x = Edges.overByToll();
        Check.due("total is over, best is not", Check.NO, x.worse(1, 0));
        Check.due("below", Check.NO, x.worse(1, 1));
        Check.due("neither is over", 0, x.worse(0, 0));
        Check.due("both are over", Check.NO, Edges.nearOver(8).worse(0, 0));
    }

    @Edge(promise = 26, says = "NO, where a long is asked: also if there are no STEADY LOADS")
    static void worseWithoutWay() {
        Check.due("above", Check.NO, Edges.stuck().worse(0, 0));
        Check.due("below", Check.NO, Edges.stuck().worse(0, 1));
    }

    @Edge(promise = 26, says = "Fractions are told in lowest terms")
    static void worseInLowestTerms() {
        // 552 less 498 by 498 is 54 by 498, which is 9 by 83.
        Check.due("above", 9, braess().worse(0, 0));
        Check.due("below", 83, braess().worse(0, 1));
        Check.due("as good as the best: 0", 0, braess().worse(2, 0));
        Check.due("by 1", 1, braess().worse(2, 1));
    }

    @Edge(promise = 26, says = "TOTAL less BEST, by BEST: a fraction")
    static void worseOfTheGreatest() {
        // 1 less than 2^63 less 1 by less: numbers as great as a long holds are divided well.
        TollWays x = Edges.nearOver(7);
        x.close(4);
        x.road(4, 5, 0, 7, 0, 0, 0);
        x.road(4, 5, 0, 6, 0, 0, 0);
        x.toll(5, 2);
        Check.due("total", Edges.MOST, x.total(1));
        Check.due("best", Edges.MOST - 1, x.best());
        Check.due("1", 1, x.worse(1, 0));
        Check.due("by the best", Edges.MOST - 1, x.worse(1, 1));
    }

    // ---- 27 without

    @Edge(promise = 27, says = "NO: mode")
    static void withoutOfNoMode() {
        for (int mode : Edges.outside(0, 2)) {
            Check.due("mode " + mode, Check.NO, braess().without(mode, 4));
        }
        Check.due("the last mode", 0, braess().without(2, 4));
    }

    @Edge(promise = 27, says = "NO: mode, road")
    static void withoutNoRoad() {
        TollWays x = braess();
        for (int road : Edges.outside(0, 4)) {
            Check.due("road " + road, Check.NO, x.without(0, road));
        }
        Check.due("the last road", -54, x.without(0, 4));
    }

    @Edge(promise = 27, says = "NO: mode, road; none then")
    static void withoutTheOnlyRoad() {
        TollWays x = Check.made(3, "0>1=1;1>2=1");
        Check.crowd(x, 0, 1, 1, 1, 1);
        Check.due("the only one", Check.NO, x.without(0, 0));
        Check.due("one that nobody needs", 0, x.without(0, 1));
    }

    @Edge(promise = 27, says = "NO, where a long is asked: also if there are no STEADY LOADS")
    static void withoutNoneNow() {
        Check.due("none now, nor then", Check.NO, Edges.stuck().without(0, 0));
    }

    @Edge(promise = 27, says = "or it is OVER")
    static void withoutOverNow() {
        Check.due("over now, not then", Check.NO, Edges.overByToll().without(1, 4));
    }

    @Edge(promise = 27, says = "or it is OVER")
    static void withoutOverThen() {
        TollWays x = Edges.nearOver(8);
        x.road(4, 5, 0, 7, 0, 0, 0);
        Check.due("not over now", Edges.MOST, x.total(0));
        Check.due("over then", Check.NO, x.without(0, 5));
        Check.due("not over then", 0, x.without(0, 4));
    }

    @Edge(promise = 27, says = "What TOTAL would be more, weren't a ROAD there")
    static void withoutWhereMuchDiffers() {
        TollWays x = Edges.nearOver(7);
        x.road(0, 4, 0, 0, 0, 0, 0);
        Check.due("only the fifth road is paid", 7, x.total(0));
        Check.due("nearly as much as a long holds", Edges.MOST - 7, x.without(0, 5));
        Check.due("nobody is on the first", 0, x.without(0, 0));
    }

    @Edge(promise = 27, says = "In thought: a ROAD isn't there")
    static void withoutIsThought() {
        TollWays x = Rich.made();
        for (int mode = 0; mode < 3; mode++) {
            x.without(mode, 0);
            x.paradox(mode, 1);
            x.paradoxes(mode);
            x.adding(mode, 0, 3, 1, 1);
        }
        Rich.stays("thought", x);
    }

    // ---- 28 paradox, 29 paradoxes

    @Edge(promise = 28, says = "NONE: mode")
    static void paradoxOfNoMode() {
        for (int mode : Edges.outside(0, 2)) {
            Check.due("mode " + mode, Check.NONE, braess().paradox(mode, 4));
        }
        Check.due("the last mode", 0, braess().paradox(2, 4));
    }

    @Edge(promise = 28, says = "NONE: mode, road")
    static void paradoxOfNoRoad() {
        TollWays x = braess();
        for (int road : Edges.outside(0, 4)) {
            Check.due("road " + road, Check.NONE, x.paradox(0, road));
        }
        Check.due("the last road", 1, x.paradox(0, 4));
    }

    @Edge(promise = 28, says = "STATE: there are no STEADY LOADS, now or then")
    static void paradoxNoneNow() {
        Check.due("none now", Check.STATE, Edges.stuck().paradox(0, 0));
        Check.due("road ahead of STATE", Check.NONE, Edges.stuck().paradox(0, 2));
    }

    @Edge(promise = 28, says = "STATE: there are no STEADY LOADS, now or then")
    static void paradoxNoneThen() {
        TollWays x = Edges.parallel(1);
        Check.crowd(x, 0, 1, 1, 1, 1);
        Check.due("none then", Check.STATE, x.paradox(0, 0));
    }

    @Edge(promise = 28, says = "OVER: a TOTAL is OVER")
    static void paradoxOverNow() {
        Check.due("over now, not then", Check.OVER, Edges.overByToll().paradox(1, 4));
        Check.due("over now and then", Check.OVER, Edges.overByToll().paradox(1, 5));
    }

    @Edge(promise = 28, says = "OVER: a TOTAL is OVER")
    static void paradoxOverThen() {
        Check.due("over then, not now", Check.OVER, Edges.overByToll().paradox(0, 5));
        Check.due("neither", 0, Edges.overByToll().paradox(0, 4));
    }

    @Edge(promise = 28, says = "STATE: there are no STEADY LOADS, now or then; OVER: a TOTAL is OVER")
    static void paradoxNamesTheFirst() {
        Check.due("none then, ahead of over now", Check.STATE, Edges.nearOver(8).paradox(0, 0));
    }

    @Edge(promise = 28, says = "TOTAL of STEADY LOADS would be less without it")
    static void paradoxOfAsMuch() {
        TollWays x = Check.made(2, "0>1=5;0>1=5;0>1=6");
        Check.crowd(x, 0, 1, 2, 1, 1);
        Check.due("as much without it", 0, x.paradox(0, 0));
        Check.due("nobody is on it", 0, x.paradox(0, 2));
        Check.due("without drivers", 0, Edges.parallel(1).paradox(0, 0));
    }

    @Edge(promise = 29, says = "NONE: mode")
    static void paradoxesOfNoMode() {
        for (int mode : Edges.outside(0, 2)) {
            Check.due("mode " + mode, Check.NONE, braess().paradoxes(mode));
        }
        Check.due("the last mode", 0, braess().paradoxes(2));
    }

    @Edge(promise = 29, says = "STATE: there are no STEADY LOADS")
    static void paradoxesNoneNow() {
        Check.due("none", Check.STATE, Edges.stuck().paradoxes(0));
        Check.due("mode ahead of STATE", Check.NONE, Edges.stuck().paradoxes(3));
    }

    @Edge(promise = 29, says = "(those with STATE or OVER are none)")
    static void paradoxesWithState() {
        // All of braess() and one more town behind it, to which only one road leads.
        TollWays x = Check.made(5, BRAESS + ";3>4=0");
        Check.crowd(x, 0, 4, 6, 1, 1);
        Check.due("state of the only road", Check.STATE, x.paradox(0, 5));
        Check.due("the others all the same", 16, x.paradoxes(0));
    }

    @Edge(promise = 29, says = "(those with STATE or OVER are none)")
    static void paradoxesWithOver() {
        Check.due("over now", 0, Edges.overByToll().paradoxes(1));
        Check.due("one that is over then", Check.OVER, Edges.overByToll().paradox(0, 5));
        Check.due("over then", 0, Edges.overByToll().paradoxes(0));
    }

    @Edge(promise = 29, says = "ROADS (bits) of which there is a PARADOX")
    static void paradoxesOfAllRoads() {
        Check.due("without roads", 0, new TollWays().paradoxes(0));
        TollWays x = Check.made(4, "0>1=0+10;0>2=50+1;1>3=50+1;2>3=0+10");
        for (int k = 4; k < 11; k++) {
            x.road(3, 0, 0, 0, 0, 0, 0);
        }
        x.road(1, 2, 1, 10, 1, 0, 0);
        Check.crowd(x, 0, 3, 6, 1, 1);
        Check.due("the twelfth", 1 << 11, x.paradoxes(0));
        x.close(0);
        x.road(0, 1, 1, 0, 10, 0, 0);
        Check.due("the eleventh", 1 << 10, x.paradoxes(0));
    }

    // ---- 30 adding

    @Edge(promise = 30, says = "NO: mode")
    static void addingOfNoMode() {
        for (int mode : Edges.outside(0, 2)) {
            Check.due("mode " + mode, Check.NO, braess().adding(mode, 0, 3, 0, 0));
        }
        Check.due("the last mode", -498, braess().adding(2, 0, 3, 0, 0));
    }

    @Edge(promise = 30, says = "NO: mode, towns")
    static void addingFromOrToNowhere() {
        TollWays x = braess();
        for (int town : Edges.outside(0, 3)) {
            Check.due("from " + town, Check.NO, x.adding(0, town, 1, 0, 0));
            Check.due("to " + town, Check.NO, x.adding(0, 1, town, 0, 0));
        }
        Check.due("from the first to the last", -552, x.adding(0, 0, 3, 0, 0));
    }

    @Edge(promise = 30, says = "NO: mode, towns (unlike ones)")
    static void addingToWhereItBegins() {
        for (int town = 0; town < 4; town++) {
            Check.due("town " + town, Check.NO, braess().adding(0, town, town, 0, 0));
        }
    }

    @Edge(promise = 30, says = "adding() with a BASE or SLOPE that may not be: NO")
    static void addingBase() {
        TollWays x = braess();
        for (long base : Edges.beyond(0, Edges.BASE)) {
            Check.due("base " + base, Check.NO, x.adding(0, 0, 3, base, 0));
        }
        Check.due("the least", -552, x.adding(0, 0, 3, 0, 0));
        Check.due("the most", 0, x.adding(0, 0, 3, Edges.BASE, 0));
    }

    @Edge(promise = 30, says = "adding() with a BASE or SLOPE that may not be: NO")
    static void addingSlope() {
        TollWays x = braess();
        for (long slope : Edges.beyond(0, Edges.SLOPE)) {
            Check.due("slope " + slope, Check.NO, x.adding(0, 0, 3, 0, slope));
        }
        Check.due("the most", 0, x.adding(0, 0, 3, 0, Edges.SLOPE));
    }

    @Edge(promise = 30, says = "(a 13th, too)")
    static void addingThirteenth() {
        TollWays x = Edges.parallel(12);
        Check.crowd(x, 0, 1, 1, 1, 1);
        Check.due("as a thirteenth", 7 - 10, x.adding(0, 0, 1, 4, 3));
        Check.due("twelve are there", 12, x.told(1));
        Check.due("no room all the same", Check.FULL, x.road(0, 1, 1, 4, 3, 0, 0));
    }

    @Edge(promise = 30, says = "there is one more, behind the others")
    static void addingBehindTheOthers() {
        // It costs as much as the only one, which is the first of the two: nobody takes it.
        TollWays x = Check.made(2, "0>1=10;0>1=20");
        x.toll(0, 5);
        Check.crowd(x, 0, 1, 2, 1, 1);
        Check.due("as dear as the first with its toll", 0, x.adding(1, 0, 1, 15, 0));
        Check.due("a bit cheaper", 2 * 14 - 2 * 10, x.adding(1, 0, 1, 14, 0));
    }

    @Edge(promise = 30, says = "NO, where a long is asked: also if there are no STEADY LOADS")
    static void addingNoneNow() {
        Check.due("none now, nor then", Check.NO, Edges.stuck().adding(0, 0, 1, 0, 0));
        Check.due("none now, but then", Check.NO, Edges.stuck().adding(0, 0, 2, 0, 0));
    }

    @Edge(promise = 30, says = "or it is OVER")
    static void addingOver() {
        Check.due("over now, not then", Check.NO, Edges.nearOver(8).adding(0, 4, 5, 7, 0));
        TollWays x = Edges.nearOver(7);
        x.toll(4, 5);
        Check.due("not over now", 1, x.is(1));
        Check.due("over then", Check.NO, x.adding(1, 4, 5, 8, 0));
        Check.due("neither", 0, x.adding(1, 4, 5, 7, 0));
    }

    // ---- 31 fix, 32 free

    @Edge(promise = 31, says = "how many are otherwise. STATE: none")
    static void fixWithoutWay() {
        TollWays x = Edges.stuck();
        x.toll(0, 5);
        Check.due("none", Check.STATE, x.fix());
        Check.due("tolls stay", 5, x.of(0, 7));
    }

    @Edge(promise = 31, says = "(10^9 at most")
    static void fixAtMost() {
        TollWays x = new TollWays();
        x.road(0, 1, 1, 0, 500_000_000L, 0, 0);
        Check.crowd(x, 0, 1, 3, 1, 1);
        Check.due("one", 1, x.fix());
        Check.due("just as much", 1_000_000_000L, x.of(0, 7));
        x.towns(2);
        x.road(0, 1, 2, 0, 500_000_000L, 1, 2);
        Check.due("one again", 1, x.fix());
        Check.due("the loss is more", 1_000_000_002L, x.cost(0, 3, 1));
        Check.due("no more than may be", 1_000_000_000L, x.of(0, 7));
        Check.due("none is otherwise then", 0, x.fix());
        x.towns(2);
        x.road(0, 1, 2, Edges.BASE, Edges.SLOPE, Edges.SLOPE, 0);
        x.drivers(0, 1, 12);
        x.fix();
        Check.due("of the greatest", 1_000_000_000L, x.of(0, 7));
    }

    @Edge(promise = 31, says = "0, where LOAD is 0)")
    static void fixWhereNobodyIs() {
        TollWays x = Check.made(2, "0>1=5;0>1=90+7");
        x.toll(1, 3);
        Check.crowd(x, 0, 1, 4, 1, 1);
        Check.due("the second is otherwise", 1, x.fix());
        Check.due("its toll", 0, x.of(1, 7));
    }

    @Edge(promise = 31, says = "how many are otherwise")
    static void fixNone() {
        Check.due("without roads", 0, new TollWays().fix());
        Check.due("without drivers and tolls", 0, Edges.parallel(12).fix());
        TollWays x = Edges.parallel(12);
        for (int r = 0; r < 12; r++) {
            x.toll(r, 1 + r);
        }
        Check.due("without drivers", 12, x.fix());
        Check.due("no tolls are left", 0, x.told(4));
    }

    @Edge(promise = 31, says = "TOLLS truly become LOSSES at STEADY LOADS of MODE 2")
    static void fixOverTotal() {
        TollWays x = Edges.nearOver(8);
        x.toll(0, 5);
        Check.due("total is over", Check.OVER, x.is(2));
        Check.due("tolls become losses all the same", 1, x.fix());
        Check.due("plain ones have none", 0, x.told(4));
    }

    @Edge(promise = 32, says = "TOLLS truly become 0: how many were not")
    static void freeNone() {
        Check.due("without roads", 0, new TollWays().free());
        Check.due("without tolls", 0, Edges.parallel(12).free());
    }

    @Edge(promise = 32, says = "TOLLS truly become 0: how many were not")
    static void freeAll() {
        TollWays x = Edges.parallel(12);
        for (int r = 0; r < 12; r++) {
            x.toll(r, 1 + r);
        }
        Check.due("all twelve", 12, x.free());
        for (int r = 0; r < 12; r++) {
            Check.due("road " + r, 0, x.of(r, 7));
        }
        Check.due("none again", 0, x.free());
    }

    @Edge(promise = 32, says = "TOLLS truly become 0: how many were not")
    static void freeWithoutWay() {
        TollWays x = Edges.stuck();
        x.toll(1, 5);
        Check.due("though there are no steady loads", 1, x.free());
    }
}
