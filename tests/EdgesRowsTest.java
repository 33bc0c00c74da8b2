/** Promises 33 to 44: a test for each sentence that names a boundary case. */
public final class EdgesRowsTest {
    private static final int MIN = Integer.MIN_VALUE, MAX = Integer.MAX_VALUE;

    public static void main(String[] args) throws Exception {
        Edges.run(EdgesRowsTest.class);
    }

    private static void holds(TollWays x, String what, int list, long... due) {
        for (int i = 0; i < due.length; i++) {
            Check.due(what + ", place " + i, due[i], x.get(list, i));
        }
        Check.due(what + ", its end", Check.NO, x.get(list, due.length));
    }

    /** Three drivers on two roads, one on the first; list 0 holds five times 9. */
    private static TollWays two() {
        TollWays x = Check.made(2, "0>1=0+4;0>1=5+1");
        Check.crowd(x, 0, 1, 3, 1, 1);
        Edges.put(x, 0, 9, 9, 9, 9, 9);
        return x;
    }

    // ---- 33 lay

    @Edge(promise = 33, says = "NONE: list")
    static void layIntoNoList() {
        TollWays x = Rich.made();
        for (int list : Edges.outside(0, 3)) {
            Check.due("list " + list, Check.NONE, x.lay(list, 0, 0));
        }
        Rich.stays("no list", x);
        x.list(3, 24);
        Check.due("the last list", 1, x.lay(3, 0, 2));
    }

    @Edge(promise = 33, says = "NONE: list, mode")
    static void layOfNoMode() {
        TollWays x = Rich.made();
        for (int mode : Edges.outside(0, 2)) {
            Check.due("mode " + mode, Check.NONE, x.lay(1, 0, mode));
        }
        Rich.stays("no mode", x);
    }

    @Edge(promise = 33, says = "NONE: list, mode; NOTHING; STATE: none")
    static void layIntoNothing() {
        TollWays x = Rich.made();
        Check.due("nothing", Check.NOTHING, x.lay(0, 0, 0));
        Check.due("nothing, at a place below 0", Check.NOTHING, x.lay(3, -1, 0));
        Rich.stays("nothing", x);
        Check.due("without roads", Check.NOTHING, new TollWays().lay(0, 0, 0));
    }

    @Edge(promise = 33, says = "STATE: none; BEYOND")
    static void layNone() {
        TollWays x = Edges.stuck();
        Edges.put(x, 0, 9, 9, 9);
        Check.due("none", Check.STATE, x.lay(0, 0, 0));
        holds(x, "nothing was laid", 0, 9, 9, 9);
    }

    @Edge(promise = 33, says = "NONE: list, mode; NOTHING; STATE: none; BEYOND")
    static void layNamesTheFirst() {
        TollWays x = Edges.stuck();
        Check.due("mode ahead of NOTHING", Check.NONE, x.lay(0, 0, 3));
        Check.due("NOTHING ahead of STATE", Check.NOTHING, x.lay(0, 0, 0));
        x.list(0, 1);
        Check.due("mode ahead of STATE", Check.NONE, x.lay(0, 0, -1));
        Check.due("STATE ahead of BEYOND", Check.STATE, x.lay(0, 0, 0));
        Check.due("STATE ahead of BEYOND, below 0", Check.STATE, x.lay(0, -1, 0));
    }

    @Edge(promise = 33, says = "BEYOND: not all were (those that had a place are there all the same")
    static void layNotAll() {
        TollWays x = two();
        Check.due("one has a place", Check.BEYOND, x.lay(0, 4, 0));
        holds(x, "the first is there", 0, 9, 9, 9, 9, 1);
    }

    @Edge(promise = 33, says = "BEYOND: not all were (those that had a place are there all the same")
    static void layBehindTheEnd() {
        TollWays x = two();
        for (int i : new int[] {5, 6, 24, MAX - 1, MAX}) {
            Check.due("from " + i, Check.BEYOND, x.lay(0, i, 0));
        }
        holds(x, "none has a place", 0, 9, 9, 9, 9, 9);
        x.list(0, 0);
        Check.due("of no places", Check.BEYOND, x.lay(0, 0, 0));
    }

    @Edge(promise = 33, says = "none, if i is below 0)")
    static void layBelow() {
        TollWays x = two();
        for (int i : new int[] {-1, -2, MIN, MIN + 1}) {
            Check.due("from " + i, Check.BEYOND, x.lay(0, i, 0));
        }
        holds(x, "none is there", 0, 9, 9, 9, 9, 9);
    }

    @Edge(promise = 33, says = "STEADY LOADS are laid into a LIST from i on: how many")
    static void layIntoTheLastPlaces() {
        TollWays x = two();
        Check.due("two", 2, x.lay(0, 3, 0));
        holds(x, "the last", 0, 9, 9, 9, 1, 2);
        Check.due("two, from the first on", 2, x.lay(0, 0, 0));
        holds(x, "the first", 0, 1, 2, 9, 1, 2);
    }

    @Edge(promise = 33, says = "STEADY LOADS are laid into a LIST from i on: how many")
    static void layWithoutRoads() {
        TollWays x = new TollWays();
        x.list(0, 3);
        Check.due("none, and all of them", 0, x.lay(0, 3, 0));
        x.list(0, 0);
        Check.due("into no places", 0, x.lay(0, 0, 2));
    }

    @Edge(promise = 33, says = "STEADY LOADS are laid into a LIST from i on: how many")
    static void layTwelve() {
        TollWays x = Edges.parallel(12);
        x.drivers(0, 1, 12);
        x.list(3, 24);
        Check.due("twelve", 12, x.lay(3, 12, 0));
        Check.due("the first place of them", 12, x.get(3, 12));
        Check.due("but for one", Check.BEYOND, x.lay(3, 13, 0));
        Check.due("laid all the same", 12, x.get(3, 13));
    }

    @Edge(promise = 33, says = "STATE: none; BEYOND")
    static void layThoughTotalIsOver() {
        TollWays x = Edges.nearOver(8);
        x.list(0, 5);
        Check.due("five", 5, x.lay(0, 0, 0));
        holds(x, "loads", 0, 25, 25, 25, 25, 1);
    }

    // ---- 34 judge

    @Edge(promise = 34, says = "NONE: list")
    static void judgeNoList() {
        for (int list : Edges.outside(0, 3)) {
            Check.due("list " + list, Check.NONE, two().judge(list, 0));
        }
        TollWays x = two();
        Edges.put(x, 3, 1, 2);
        Check.due("the last list", 2, x.judge(3, 0));
    }

    @Edge(promise = 34, says = "NONE: list; NOTHING")
    static void judgeNothing() {
        Check.due("nothing", Check.NOTHING, two().judge(1, 0));
        Check.due("NOTHING ahead of BEYOND", Check.NOTHING, two().judge(1, -1));
    }

    @Edge(promise = 34, says = "BEYOND: the row ends ahead of the last ROAD's (or i is below 0)")
    static void judgeEndsTooEarly() {
        TollWays x = two();
        Edges.put(x, 0, 9, 9, 2, 1);
        Check.due("to the last place", 1, x.judge(0, 2));
        for (int i : new int[] {3, 4, 5, 24, MAX - 1, MAX}) {
            Check.due("from " + i, Check.BEYOND, x.judge(0, i));
        }
        x.list(0, 0);
        Check.due("no places", Check.BEYOND, x.judge(0, 0));
    }

    @Edge(promise = 34, says = "(or i is below 0)")
    static void judgeBelow() {
        TollWays x = two();
        for (int i : new int[] {-1, -2, MIN, MIN + 1}) {
            Check.due("from " + i, Check.BEYOND, x.judge(0, i));
        }
        x.towns(2);
        Check.due("without roads", Check.BEYOND, x.judge(0, -1));
    }

    @Edge(promise = 34, says = "BEYOND: the row ends ahead of the last ROAD's (or i is below 0)")
    static void judgeWithoutRoads() {
        TollWays x = new TollWays();
        x.list(0, 3);
        Check.due("at the end", 2, x.judge(0, 3));
        Check.due("behind the end", Check.BEYOND, x.judge(0, 4));
        x.list(0, 0);
        Check.due("of no places", 2, x.judge(0, 0));
        x.drivers(0, 1, 1);
        Check.due("nobody comes to town 1", 0, x.judge(0, 0));
    }

    @Edge(promise = 34, says = "BEYOND: the row ends ahead of the last ROAD's (or i is below 0); OVER: they CONSERVE")
    static void judgeNamesTheFirst() {
        TollWays x = two();
        Edges.put(x, 0, 99, -96);
        Check.due("BEYOND ahead of the rest", Check.BEYOND, x.judge(0, 1));
    }

    @Edge(promise = 34, says = "They CONSERVE, if each is 0 or more")
    static void judgeBelowNought() {
        // In and out of town 1 as many as it takes, though one is below 0.
        long[][] told = {{-1, 0, 3, 0}, {1, -1, 0, 0}, {3, 0, -1, 0}, {3, 0, 0, -1}};
        for (int r = 0; r < 4; r++) {
            TollWays x = Check.made(3, "0>1=1;1>0=1;0>1=1;0>1=1");
            Check.crowd(x, 0, 1, 2, 1, 1);
            Edges.put(x, 0, told[r]);
            Check.due("road " + r, 0, x.judge(0, 0));
        }
    }

    @Edge(promise = 34, says = "They CONSERVE, if each is 0 or more")
    static void judgeLeast() {
        TollWays x = Check.made(2, "0>1=1;1>0=1");
        Check.crowd(x, 0, 1, 2, 1, 1);
        // 2^63 and 2^63 less 2, if the first were read without its sign.
        Edges.put(x, 0, Long.MIN_VALUE, Long.MAX_VALUE - 1);
        Check.due("the least long", 0, x.judge(0, 0));
        x.drivers(0, 1, 0);
        Edges.put(x, 0, -1, -1);
        Check.due("as many below 0", 0, x.judge(0, 0));
        Edges.put(x, 0, 0, 0);
        Check.due("0 is enough", 2, x.judge(0, 0));
    }

    @Edge(promise = 34, says = "in each TOWN but 0 as many more come in than go out as there are DRIVERS whose TO it is")
    static void judgeEachTown() {
        TollWays x = Check.made(3, "0>1=1;1>2=1;0>2=9");
        Check.crowd(x, 0, 2, 3, 1, 1);
        Edges.put(x, 0, 3, 3, 0);
        Check.due("they do", 2, x.judge(0, 0));
        Edges.put(x, 0, 3, 2, 0);
        Check.due("one too few come to 2", 0, x.judge(0, 0));
        Edges.put(x, 0, 3, 2, 1);
        Check.due("one stays in 1", 0, x.judge(0, 0));
        Edges.put(x, 0, 2, 3, 0);
        Check.due("one too many go out of 1", 0, x.judge(0, 0));
        Edges.put(x, 0, 0, 0, 4);
        Check.due("one too many come to 2", 0, x.judge(0, 0));
    }

    @Edge(promise = 34, says = "in each TOWN but 0 as many more come in than go out as there are DRIVERS whose TO it is")
    static void judgeBeyondLongs() {
        TollWays x = Check.made(2, "0>1=1;0>1=1;0>1=1;1>0=1");
        Check.crowd(x, 0, 1, 2, 1, 1);
        // Their sum would be 2, if it were a long: 2^64 and 2.
        Edges.put(x, 0, Long.MAX_VALUE, Long.MAX_VALUE, 4, 0);
        Check.due("2^64 too many", 0, x.judge(0, 0));
        Edges.put(x, 0, (1L << 32) + 2, 0, 0, 0);
        Check.due("2^32 too many", 0, x.judge(0, 0));
        Edges.put(x, 0, 2, 0, 0, 1L << 32);
        Check.due("2^32 too few", 0, x.judge(0, 0));
        Edges.put(x, 0, Long.MAX_VALUE, 1, 1, Long.MAX_VALUE);
        Check.due("they do, and some are above 36", Check.OVER, x.judge(0, 0));
        Edges.put(x, 0, 1L << 32, 0, 0, (1L << 32) - 2);
        Check.due("they do, with halves carried", Check.OVER, x.judge(0, 0));
        Edges.put(x, 0, Long.MAX_VALUE, Long.MAX_VALUE, 0, Long.MAX_VALUE);
        Check.due("2^63 too many", 0, x.judge(0, 0));
    }

    @Edge(promise = 34, says = "(a CLASS whose TO isn't there: none do)")
    static void judgeToATownThatIsNotThere() {
        TollWays x = two();
        Check.crowd(x, 1, 2, 4, 1, 1);
        Edges.put(x, 0, 2, 1);
        Check.due("none come to it", 1, x.judge(0, 0));
        Edges.put(x, 0, 6, 1);
        Check.due("nor to another", 0, x.judge(0, 0));
    }

    @Edge(promise = 34, says = "(1, if there is no BEST, for there are no STEADY LOADS)")
    static void judgeWithoutBest() {
        TollWays x = two();
        Edges.put(x, 0, 1, 2);
        Check.due("the best", 2, x.judge(0, 0));
        Check.crowd(x, 1, 5, 1, 1, 1);
        Check.due("there is none", 1, x.judge(0, 0));
    }

    @Edge(promise = 34, says = "OVER: they CONSERVE, and their TOTAL, or BEST, is OVER")
    static void judgeTotalJustOver() {
        TollWays x = Edges.overByToll();
        Edges.put(x, 0, 25, 25, 25, 25, 0, 1);
        Check.due("just within, and the best", 2, x.judge(0, 0));
        Edges.put(x, 0, 25, 25, 25, 25, 1, 0);
        Check.due("just over, though the best isn't", Check.OVER, x.judge(0, 0));
        Edges.put(x, 0, 25, 25, 25, 25, 1, 1);
        Check.due("over, but they don't conserve", 0, x.judge(0, 0));
    }

    @Edge(promise = 34, says = "OVER: they CONSERVE, and their TOTAL, or BEST, is OVER")
    static void judgeBestIsOver() {
        TollWays x = Edges.nearOver(8);
        Edges.put(x, 0, 25, 25, 25, 25, 1);
        Check.due("best is over", Check.OVER, x.judge(0, 0));
        Edges.put(x, 0, 25, 25, 25, 25, 0);
        Check.due("but they don't conserve", 0, x.judge(0, 0));
    }

    @Edge(promise = 34, says = "or one is above 36")
    static void judgeAboveAllDrivers() {
        TollWays x = Check.made(2, "0>1=1;1>0=1");
        Check.crowd(x, 0, 1, 2, 1, 1);
        Edges.put(x, 0, 36, 34);
        Check.due("36 in circles", 1, x.judge(0, 0));
        Edges.put(x, 0, 37, 35);
        Check.due("37", Check.OVER, x.judge(0, 0));
        Edges.put(x, 0, 37, 34);
        Check.due("37, but they don't conserve", 0, x.judge(0, 0));
        Edges.put(x, 0, 1L << 32, (1L << 32) - 2);
        Check.due("0, if it were an int", Check.OVER, x.judge(0, 0));
        x = Check.made(2, "1>0=1;0>1=1");
        Edges.put(x, 0, 37, 37);
        Check.due("37 without drivers", Check.OVER, x.judge(0, 0));
        Edges.put(x, 0, 36, 36);
        Check.due("36 without drivers", 1, x.judge(0, 0));
    }

    @Edge(promise = 34, says = "TOLD LOADS: 0 they don't CONSERVE, 1 they do, 2 their TOTAL is BEST, too")
    static void judgeFromAPlaceOn() {
        TollWays x = two();
        Edges.put(x, 0, 7, 3, 0, 1, 2);
        int[] due = {0, 1, 0, 2};
        for (int i = 0; i < 4; i++) {
            Check.due("from " + i, due[i], x.judge(0, i));
        }
        holds(x, "the list stays", 0, 7, 3, 0, 1, 2);
    }

    // ---- 35 tray

    @Edge(promise = 35, says = "NONE: tray")
    static void trayOfNoNumber() {
        TollWays x = Rich.made();
        for (int tray : Edges.outside(0, 2)) {
            Check.due("tray " + tray, Check.NONE, x.tray(tray, 0, 1));
        }
        Rich.stays("no tray", x);
        Check.due("the last tray", 1, x.tray(2, 0, 1));
    }

    @Edge(promise = 35, says = "NONE: tray, kind")
    static void trayForNoKind() {
        TollWays x = Rich.made();
        for (int kind : Edges.outside(0, 2)) {
            Check.due("kind " + kind, Check.NONE, x.tray(0, kind, 1));
        }
        Rich.stays("no kind", x);
        Check.due("the last kind", 1, x.tray(0, 2, 1));
    }

    @Edge(promise = 35, says = "BAD: n above 20")
    static void trayTooLarge() {
        TollWays x = Rich.made();
        for (int n : new int[] {21, 22, MAX}) {
            Check.due("n " + n, Check.BAD, x.tray(0, 0, n));
            Check.due("of one that was missing, n " + n, Check.BAD, x.tray(1, 0, n));
        }
        Rich.stays("too large", x);
        Check.due("the most", 1, x.tray(0, 0, 20));
        Check.due("its last place", 1, x.lays(0, 19, 0));
        Check.due("its end", Check.BEYOND, x.lays(0, 20, 0));
    }

    @Edge(promise = 35, says = "BELOW (-14): a size below 0")
    static void trayBelow() {
        TollWays x = Rich.made();
        for (int n : new int[] {-1, -2, MIN}) {
            Check.due("n " + n, Check.BELOW, x.tray(0, 0, n));
            Check.due("of one that was missing, n " + n, Check.BELOW, x.tray(1, 0, n));
        }
        Rich.stays("below", x);
    }

    @Edge(promise = 35, says = "A TRAY becomes a row of n (all empty), made for a KIND: 1")
    static void trayOfNoPlaces() {
        TollWays x = Edges.parallel(1);
        Check.due("none", 1, x.tray(0, 0, 0));
        Check.due("no place", Check.BEYOND, x.lays(0, 0, 0));
        Check.due("but it is there", 0, x.like(1, 0));
    }

    @Edge(promise = 35, says = "(all empty)")
    static void trayIsEmptyAgain() {
        TollWays x = Edges.parallel(1);
        x.tray(0, 0, 20);
        for (int i = 0; i < 20; i++) {
            x.lays(0, i, 0);
        }
        Check.due("anew", 1, x.tray(0, 0, 20));
        for (int i = 0; i < 20; i++) {
            Check.due("place " + i, Check.NO, x.laid(0, i, 1));
        }
    }

    @Edge(promise = 35, says = "NONE: tray, kind; BAD: n above 20; BELOW")
    static void trayNamesTheFirst() {
        TollWays x = new TollWays();
        Check.due("tray ahead of BAD", Check.NONE, x.tray(3, 0, 21));
        Check.due("kind ahead of BAD", Check.NONE, x.tray(0, 3, 21));
        Check.due("tray ahead of BELOW", Check.NONE, x.tray(3, 0, -1));
        Check.due("kind ahead of BELOW", Check.NONE, x.tray(0, -1, -1));
    }

    // ---- 36 lays

    @Edge(promise = 36, says = "NONE: tray")
    static void laysIntoNoTray() {
        TollWays x = Rich.made();
        for (int tray : Edges.outside(0, 2)) {
            Check.due("tray " + tray, Check.NONE, x.lays(tray, 0, 0));
        }
        Rich.stays("no tray", x);
        x.tray(2, 0, 1);
        Check.due("the last tray", 1, x.lays(2, 0, 0));
    }

    @Edge(promise = 36, says = "NONE: tray, road")
    static void laysNoRoad() {
        TollWays x = Rich.made();
        for (int road : Edges.outside(-1, 3)) {
            Check.due("road " + road, Check.NONE, x.lays(0, 0, road));
        }
        Rich.stays("no road", x);
        x.towns(2);
        Check.due("none is there", Check.NONE, x.lays(0, 0, 0));
    }

    @Edge(promise = 36, says = "NONE: tray, road; NOTHING")
    static void laysIntoNothing() {
        TollWays x = Rich.made();
        Check.due("a road", Check.NOTHING, x.lays(1, 0, 0));
        Check.due("nothing", Check.NOTHING, x.lays(2, 0, -1));
        Rich.stays("nothing", x);
    }

    @Edge(promise = 36, says = "BEYOND (-13): no such place")
    static void laysNowhere() {
        TollWays x = Rich.made();
        for (int i : Edges.outside(0, 1)) {
            Check.due("place " + i, Check.BEYOND, x.lays(0, i, 1));
            Check.due("nothing at place " + i, Check.BEYOND, x.lays(0, i, -1));
        }
        Rich.stays("nowhere", x);
        x = Rich.made();
        Check.due("the first place", 1, x.lays(0, 0, 1));
        Check.due("the last place", 1, x.lays(0, 1, 1));
    }

    @Edge(promise = 36, says = "UNLIKE (-16): a TRAY isn't made for such")
    static void laysUnlike() {
        TollWays x = Rich.made();
        Check.due("a plain one into one for sloped ones", Check.UNLIKE, x.lays(0, 1, 2));
        Rich.stays("unlike", x);
        x = Check.made(2, "0>1=1+2;0>1=3+4^5:6");
        x.tray(1, 2, 1);
        x.lays(1, 0, 1);
        Check.due("a sloped one into one for kneed ones", Check.UNLIKE, x.lays(1, 0, 0));
        Check.due("what lay there stays", 3 + 4, x.laid(1, 0, 1));
    }

    @Edge(promise = 36, says = "each made for a KIND and those under it")
    static void laysOfKindsUnderIt() {
        for (int kind = 0; kind < 3; kind++) {
            for (int road = 0; road < 3; road++) {
                TollWays x = Check.made(2, "0>1=1;0>1=1+1;0>1=1+1^1:1");
                x.tray(0, kind, 1);
                Check.due("road " + road + " into one for " + kind, road < kind ? Check.UNLIKE : 1,
                        x.lays(0, 0, road));
            }
        }
    }

    @Edge(promise = 36, says = "A ROAD (-1: nothing) is laid into place i of a TRAY: 1")
    static void laysNothing() {
        TollWays x = Rich.made();
        Check.due("where one lies", 1, x.lays(0, 1, -1));
        Check.due("it is gone", Check.NO, x.laid(0, 1, 1));
        Check.due("where none lies", 1, x.lays(0, 0, -1));
        x.tray(2, 2, 1);
        Check.due("into one for kneed ones", 1, x.lays(2, 0, -1));
        x.towns(2);
        Check.due("without roads", 1, x.lays(0, 0, -1));
    }

    @Edge(promise = 36, says = "NONE: tray, road; NOTHING; BEYOND; UNLIKE")
    static void laysNamesTheFirst() {
        TollWays x = Edges.parallel(1);
        Check.due("road ahead of NOTHING", Check.NONE, x.lays(0, 0, 1));
        Check.due("NOTHING ahead of BEYOND", Check.NOTHING, x.lays(0, -1, 0));
        x.tray(0, 2, 1);
        Check.due("road ahead of BEYOND", Check.NONE, x.lays(0, 1, 1));
        Check.due("BEYOND ahead of UNLIKE", Check.BEYOND, x.lays(0, 1, 0));
        Check.due("UNLIKE", Check.UNLIKE, x.lays(0, 0, 0));
    }

    @Edge(promise = 36, says = "(as they were when laid: KIND, BASE, SLOPE, STEEP, KNEE)")
    static void laysAsTheyWere() {
        TollWays x = Check.made(2, "0>1=1+2^3:4;0>1=5");
        x.tray(0, 0, 2);
        x.lays(0, 0, 0);
        x.lays(0, 1, 1);
        x.towns(2);
        x.road(0, 1, 0, 99, 0, 0, 0);
        Check.due("below the knee", 1 + 3 * 2, x.laid(0, 0, 3));
        Check.due("above the knee", 1 + 5 * 2 + 2 * 4, x.laid(0, 0, 5));
        Check.due("plain", 5, x.laid(0, 1, 5));
    }

    // ---- 37 laid

    @Edge(promise = 37, says = "NO: tray")
    static void laidInNoTray() {
        for (int tray : Edges.outside(0, 2)) {
            Check.due("tray " + tray, Check.NO, Rich.made().laid(tray, 1, 1));
        }
        TollWays x = Edges.parallel(1);
        x.tray(2, 0, 1);
        x.lays(2, 0, 0);
        Check.due("in the last tray", 10, x.laid(2, 0, 1));
    }

    @Edge(promise = 37, says = "COST by x (1 .. 36) of what lies in place i of a TRAY. NO: tray, x")
    static void laidBySoMany() {
        TollWays x = Rich.made();
        for (int many : Edges.outside(1, 36)) {
            Check.due("x " + many, Check.NO, x.laid(0, 1, many));
        }
        Check.due("the least", 7, x.laid(0, 1, 1));
        Check.due("the most", 3 + 36 * 4 + 35 * 5, x.laid(0, 1, 36));
    }

    @Edge(promise = 37, says = "nothing there")
    static void laidNothing() {
        TollWays x = Rich.made();
        Check.due("an empty place", Check.NO, x.laid(0, 0, 1));
        Check.due("a missing tray", Check.NO, x.laid(1, 0, 1));
    }

    @Edge(promise = 37, says = "no such place")
    static void laidNowhere() {
        TollWays x = Rich.made();
        for (int i : Edges.outside(0, 1)) {
            Check.due("place " + i, Check.NO, x.laid(0, i, 1));
        }
        x.lays(0, 1, -1);
        x.tray(0, 0, 0);
        Check.due("of no places", Check.NO, x.laid(0, 0, 1));
        x = Edges.parallel(1);
        x.tray(0, 0, 20);
        x.lays(0, 19, 0);
        x.tray(0, 0, 19);
        Check.due("behind the end of a shorter one", Check.NO, x.laid(0, 19, 1));
    }

    // ---- 38 like

    @Edge(promise = 38, says = "its size. NONE")
    static void likeOfNoTray() {
        TollWays x = Rich.made();
        for (int tray : Edges.outside(0, 2)) {
            Check.due("tray " + tray, Check.NONE, x.like(tray, 0));
        }
        Rich.stays("no tray", x);
        Check.due("the last tray", 2, x.like(2, 0));
    }

    @Edge(promise = 38, says = "its size. NONE")
    static void likeNoOther() {
        TollWays x = Rich.made();
        for (int other : Edges.outside(0, 2)) {
            Check.due("other " + other, Check.NONE, x.like(0, other));
        }
        Rich.stays("no other", x);
    }

    @Edge(promise = 38, says = "NOTHING: the other")
    static void likeNothing() {
        TollWays x = Rich.made();
        Check.due("the other is missing", Check.NOTHING, x.like(0, 1));
        Check.due("both are", Check.NOTHING, x.like(1, 2));
        Check.due("it is itself missing", Check.NOTHING, x.like(2, 2));
        Check.due("NONE ahead of NOTHING", Check.NONE, x.like(3, 1));
        Rich.stays("nothing", x);
        Check.due("only it was missing", 2, x.like(1, 0));
    }

    @Edge(promise = 38, says = "A TRAY becomes a row like another one, as that is now: its size")
    static void likeOfNoPlaces() {
        TollWays x = Rich.made();
        x.tray(2, 2, 0);
        Check.due("none", 0, x.like(0, 2));
        Check.due("nothing is there", Check.NO, x.laid(0, 1, 1));
        Check.due("no place", Check.BEYOND, x.lays(0, 0, -1));
    }

    @Edge(promise = 38, says = "A TRAY becomes a row like another one, as that is now: its size")
    static void likeOfTwenty() {
        TollWays x = Edges.parallel(1);
        x.tray(0, 0, 20);
        x.lays(0, 19, 0);
        Check.due("twenty", 20, x.like(2, 0));
        Check.due("the last place", 10, x.laid(2, 19, 1));
        Check.due("the first is empty", Check.NO, x.laid(2, 0, 1));
    }

    @Edge(promise = 38, says = "like() lays a row of its own")
    static void likeIsOfItsOwn() {
        TollWays x = Rich.made();
        x.like(1, 0);
        x.lays(0, 1, -1);
        Check.due("it keeps what the other loses", 7, x.laid(1, 1, 1));
        x.lays(1, 0, 0);
        Check.due("the other doesn't get what it gets", Check.NO, x.laid(0, 0, 1));
    }

    @Edge(promise = 38, says = "A TRAY becomes a row like another one, as that is now")
    static void likeOfTheKindToo() {
        TollWays x = Rich.made();
        x.tray(1, 0, 1);
        x.like(1, 0);
        Check.due("for sloped ones now", Check.UNLIKE, x.lays(1, 0, 2));
        Check.due("like itself", 2, x.like(1, 1));
        Check.due("all is as it was", 7, x.laid(1, 1, 1));
    }

    // ---- 39 told

    @Edge(promise = 39, says = "4 the sum of TOLLS. NO")
    static void toldNoWhat() {
        for (int what : Edges.outside(0, 4)) {
            Check.due("what " + what, Check.NO, Rich.made().told(what));
        }
        Check.due("the last what", 19, Rich.made().told(4));
    }

    @Edge(promise = 39, says = "What 0 n, 1 ROADS, 2 all DRIVERS, 3 bytes of THE TAPE, 4 the sum of TOLLS")
    static void toldOfTheMost() {
        TollWays x = new TollWays();
        x.towns(6);
        for (int r = 0; r < 12; r++) {
            x.road(0, 1, 0, 0, 0, 0, 0);
            x.toll(r, 1_000_000_000L);
        }
        for (int cls = 0; cls < 3; cls++) {
            x.drivers(cls, 0, 5);
            x.drivers(cls, 1, 12);
        }
        for (int k = 0; k < 101; k++) {
            x.feed('0');
        }
        long[] due = {6, 12, 36, 100, 12_000_000_000L};
        for (int what = 0; what < 5; what++) {
            Check.due("what " + what, due[what], x.told(what));
        }
    }

    @Edge(promise = 39, says = "What 0 n, 1 ROADS, 2 all DRIVERS, 3 bytes of THE TAPE, 4 the sum of TOLLS")
    static void toldOfTheLeast() {
        long[] due = {2, 0, 0, 0, 0};
        for (int what = 0; what < 5; what++) {
            Check.due("what " + what, due[what], new TollWays().told(what));
        }
    }

    // ---- 40 list

    @Edge(promise = 40, says = "all 0: 1. NONE: list")
    static void listOfNoNumber() {
        TollWays x = Rich.made();
        for (int list : Edges.outside(0, 3)) {
            Check.due("list " + list, Check.NONE, x.list(list, 1));
        }
        Rich.stays("no list", x);
        Check.due("the last list", 1, x.list(3, 1));
    }

    @Edge(promise = 40, says = "BAD: n above 24")
    static void listTooLong() {
        TollWays x = Rich.made();
        for (int n : new int[] {25, 26, MAX}) {
            Check.due("n " + n, Check.BAD, x.list(1, n));
            Check.due("of one that held nothing, n " + n, Check.BAD, x.list(0, n));
        }
        Rich.stays("too long", x);
        Check.due("the most", 1, x.list(1, 24));
        Check.due("its last place", 0, x.get(1, 23));
        Check.due("its end", Check.NO, x.get(1, 24));
    }

    @Edge(promise = 40, says = "BELOW (-14): a size below 0")
    static void listBelow() {
        TollWays x = Rich.made();
        for (int n : new int[] {-1, -2, MIN}) {
            Check.due("n " + n, Check.BELOW, x.list(1, n));
            Check.due("of one that held nothing, n " + n, Check.BELOW, x.list(0, n));
        }
        Rich.stays("below", x);
    }

    @Edge(promise = 40, says = "a row of 0 .. 24 longs")
    static void listOfNoPlaces() {
        TollWays x = new TollWays();
        Check.due("none", 1, x.list(0, 0));
        Check.due("no place", Check.BEYOND, x.set(0, 0, 1));
        Check.due("nothing to get", Check.NO, x.get(0, 0));
    }

    @Edge(promise = 40, says = "A LIST becomes a row of n longs, all 0: 1")
    static void listIsNoughtAgain() {
        TollWays x = new TollWays();
        x.list(2, 24);
        for (int i = 0; i < 24; i++) {
            x.set(2, i, 7);
        }
        x.list(2, 1);
        Check.due("a shorter one", 0, x.get(2, 0));
        Check.due("its end", Check.NO, x.get(2, 1));
        x.list(2, 24);
        for (int i = 0; i < 24; i++) {
            Check.due("place " + i, 0, x.get(2, i));
        }
    }

    @Edge(promise = 40, says = "NONE: list; BAD: n above 24; BELOW")
    static void listNamesTheFirst() {
        Check.due("NONE ahead of BAD", Check.NONE, new TollWays().list(4, 25));
        Check.due("NONE ahead of BELOW", Check.NONE, new TollWays().list(-1, -1));
    }

    // ---- 41 set, 42 get

    @Edge(promise = 41, says = "NONE; NOTHING; BEYOND")
    static void setNoList() {
        TollWays x = Rich.made();
        for (int list : Edges.outside(0, 3)) {
            Check.due("list " + list, Check.NONE, x.set(list, 0, 1));
        }
        Rich.stays("no list", x);
        x.list(3, 1);
        Check.due("the last list", 1, x.set(3, 0, 1));
    }

    @Edge(promise = 41, says = "NONE; NOTHING; BEYOND")
    static void setNothing() {
        TollWays x = Rich.made();
        Check.due("nothing", Check.NOTHING, x.set(0, 0, 1));
        Check.due("NOTHING ahead of BEYOND", Check.NOTHING, x.set(3, -1, 1));
        Rich.stays("nothing", x);
    }

    @Edge(promise = 41, says = "NONE; NOTHING; BEYOND")
    static void setNowhere() {
        TollWays x = Rich.made();
        for (int i : Edges.outside(0, 2)) {
            Check.due("place " + i, Check.BEYOND, x.set(1, i, 1));
        }
        Check.due("of no places", Check.BEYOND, x.set(2, 0, 1));
        Rich.stays("nowhere", x);
    }

    @Edge(promise = 41, says = "Place i of a LIST becomes v: 1")
    static void setEnds() {
        TollWays x = new TollWays();
        x.list(0, 24);
        Check.due("the first", 1, x.set(0, 0, Long.MIN_VALUE + 1));
        Check.due("the last", 1, x.set(0, 23, Long.MAX_VALUE));
        Check.due("the first is that", Long.MIN_VALUE + 1, x.get(0, 0));
        Check.due("the last is that", Long.MAX_VALUE, x.get(0, 23));
        Check.due("the one between is 0", 0, x.get(0, 22));
    }

    @Edge(promise = 42, says = "NO: no such LIST")
    static void getNoList() {
        for (int list : Edges.outside(0, 3)) {
            Check.due("list " + list, Check.NO, Rich.made().get(list, 0));
        }
        TollWays x = new TollWays();
        x.list(3, 1);
        Check.due("the last list", 0, x.get(3, 0));
    }

    @Edge(promise = 42, says = "NO: no such LIST, nothing there")
    static void getNothing() {
        for (int list = 0; list < 4; list++) {
            Check.due("list " + list, Check.NO, new TollWays().get(list, 0));
        }
    }

    @Edge(promise = 42, says = "nothing there, no such place")
    static void getNowhere() {
        TollWays x = Rich.made();
        for (int i : Edges.outside(0, 2)) {
            Check.due("place " + i, Check.NO, x.get(1, i));
        }
        Check.due("of no places", Check.NO, x.get(2, 0));
        Check.due("the last place", 7, x.get(1, 2));
    }

    // ---- 43 image, 44 undo

    @Edge(promise = 43, says = "THE IMAGE is taken: how many ROADS")
    static void imageOfNothing() {
        TollWays x = new TollWays();
        Check.due("without roads", 0, x.image());
        x.road(0, 1, 0, 1, 0, 0, 0);
        x.towns(6);
        Check.due("without roads again", 0, x.undo());
        Check.due("two towns", 2, x.told(0));
    }

    @Edge(promise = 43, says = "THE IMAGE is taken: how many ROADS")
    static void imageOfTwelve() {
        TollWays x = Edges.parallel(12);
        x.toll(11, 1_000_000_000L);
        Check.due("twelve", 12, x.image());
        x.towns(6);
        for (int r = 0; r < 12; r++) {
            x.road(4, 5, 1, 99, 0, 0, 0);
        }
        Check.due("twelve again", 12, x.undo());
        for (int r = 0; r < 12; r++) {
            Check.due("base of road " + r, 10 + r, x.of(r, 3));
        }
        Check.due("the last one's toll", 1_000_000_000L, x.of(11, 7));
        Check.due("no room", Check.FULL, x.road(0, 1, 0, 1, 0, 0, 0));
    }

    @Edge(promise = 43, says = "THE IMAGE is taken")
    static void imageAnew() {
        TollWays x = Edges.parallel(3);
        x.image();
        x.close(0);
        Check.due("the newer", 2, x.image());
        x.towns(2);
        Check.due("is what comes back", 2, x.undo());
        Check.due("its first", 11, x.of(0, 3));
    }

    @Edge(promise = 44, says = "STATE: there is none")
    static void undoNone() {
        TollWays x = Edges.parallel(2);
        x.drivers(0, 1, 3);
        Check.due("none", Check.STATE, x.undo());
        Check.due("roads stay", 2, x.told(1));
        Check.due("drivers stay", 3, x.told(2));
    }

    @Edge(promise = 44, says = "All is as THE IMAGE: how many ROADS")
    static void undoTwice() {
        TollWays x = Edges.parallel(2);
        x.image();
        x.close(0);
        Check.due("once", 2, x.undo());
        x.toll(0, 5);
        x.road(0, 1, 0, 1, 0, 0, 0);
        Check.due("twice", 2, x.undo());
        Check.due("without the toll", 0, x.told(4));
    }

    @Edge(promise = 44, says = "(TRAYS, LISTS, THE TAPE stay by undo())")
    static void undoKeepsTrays() {
        TollWays x = Edges.parallel(1);
        x.tray(0, 0, 2);
        x.image();
        x.lays(0, 1, 0);
        x.undo();
        Check.due("what was laid behind the image", 10, x.laid(0, 1, 1));
    }

    @Edge(promise = 44, says = "(TRAYS, LISTS, THE TAPE stay by undo())")
    static void undoKeepsLists() {
        TollWays x = new TollWays();
        x.image();
        Edges.put(x, 3, 4, 5);
        x.undo();
        holds(x, "the list", 3, 4, 5);
    }

    @Edge(promise = 44, says = "(TRAYS, LISTS, THE TAPE stay by undo())")
    static void undoKeepsTheTape() {
        TollWays x = new TollWays();
        Check.feed(x, "0>1=");
        x.image();
        x.feed('7');
        x.undo();
        Check.due("bytes", 5, x.told(3));
        Check.due("a road", 1, x.roads());
        Check.due("its base", 7, x.of(0, 3));
    }

    @Edge(promise = 44, says = "THE IMAGE: TOWNS, ROADS, CLASSES")
    static void undoOfAll() {
        TollWays x = Rich.made();
        x.image();
        x.towns(2);
        Check.crowd(x, 0, 5, 12, 9, 9);
        Check.crowd(x, 2, 5, 12, 9, 9);
        Check.due("four roads", 4, x.undo());
        int[][] due = {{3, 3, 2, 1}, {2, 1, 2, 3}, {1, 0, 1, 1}};
        for (int cls = 0; cls < 3; cls++) {
            for (int what = 0; what < 4; what++) {
                Check.due("class " + cls + " what " + what, due[cls][what], x.driversOf(cls, what));
            }
        }
        Check.due("towns", 4, x.told(0));
        Check.due("tolls", 19, x.told(4));
        Check.due("the last road", 7, x.of(3, 3));
    }

    // ---- all of them

    @Edge(promise = 44, says = "what is asked changes nothing but LISTS that are told")
    static void questionsChangeNothing() {
        TollWays x = Rich.made();
        for (int mode = 0; mode < 3; mode++) {
            x.is(mode);
            x.load(mode, 0);
            x.on(mode, 0, 0);
            x.steps(mode);
            x.total(mode);
            x.price(mode, 0, 0, 1);
            x.mean(mode, 0, 0);
            x.shown(mode, 0);
            x.taken(mode);
            x.busy(mode, 0);
            x.worse(mode, 0);
        }
        x.ways(0);
        x.way(0, 0, 0);
        x.best();
        x.judge(1, 0);
        x.cost(1, 36, 1);
        Rich.stays("what is asked", x);
    }
}
