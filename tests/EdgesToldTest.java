/** Promises 1 to 11: a test for each sentence that names a boundary case. */
public final class EdgesToldTest {
    private static final int MIN = Integer.MIN_VALUE, MAX = Integer.MAX_VALUE;

    public static void main(String[] args) throws Exception {
        Edges.run(EdgesToldTest.class);
    }

    // ---- 1 a new object

    @Edge(promise = 1, says = "Two TOWNS")
    static void newTwoTowns() {
        TollWays x = new TollWays();
        Check.due("how many", 2, x.told(0));
        Check.due("from 0 to 1", 0, x.road(0, 1, 0, 1, 0, 0, 0));
        Check.due("from 1 to 0", 1, x.road(1, 0, 0, 1, 0, 0, 0));
        Check.due("no town 2", Check.NONE, x.road(0, 2, 0, 1, 0, 0, 0));
    }

    @Edge(promise = 1, says = "no ROADS")
    static void newNoRoads() {
        TollWays x = new TollWays();
        Check.due("how many", 0, x.told(1));
        Check.due("of", Check.NO, x.of(0, 0));
        Check.due("close", Check.NONE, x.close(0));
    }

    @Edge(promise = 1, says = "TO (1 .. 5; 1 at first")
    static void newClassesGoToOne() {
        for (int cls = 0; cls < 3; cls++) {
            Check.due("class " + cls, 1, new TollWays().driversOf(cls, 0));
        }
    }

    @Edge(promise = 1, says = "MANY (0 .. 12; 0 at first)")
    static void newNobodyDrives() {
        TollWays x = new TollWays();
        for (int cls = 0; cls < 3; cls++) {
            Check.due("class " + cls, 0, x.driversOf(cls, 1));
        }
        Check.due("all", 0, x.told(2));
    }

    @Edge(promise = 1, says = "TIME (1 .. 9), MONEY (0 .. 9); 1 each at first")
    static void newTimeAndMoney() {
        TollWays x = new TollWays();
        for (int cls = 0; cls < 3; cls++) {
            Check.due("time of class " + cls, 1, x.driversOf(cls, 2));
            Check.due("money of class " + cls, 1, x.driversOf(cls, 3));
        }
    }

    @Edge(promise = 1, says = "THE TAPE holds 0 .. 100 bytes")
    static void newTapeIsEmpty() {
        TollWays x = new TollWays();
        Check.due("bytes", 0, x.told(3));
        Check.due("cleared", 0, x.clear());
    }

    @Edge(promise = 1, says = "missing at first")
    static void newTraysAreMissing() {
        for (int tray = 0; tray < 3; tray++) {
            Check.due("tray " + tray, Check.NOTHING, new TollWays().lays(tray, 0, -1));
        }
    }

    @Edge(promise = 1, says = "LISTS 0 .. 3 hold nothing (at first)")
    static void newListsHoldNothing() {
        for (int list = 0; list < 4; list++) {
            Check.due("list " + list, Check.NOTHING, new TollWays().set(list, 0, 1));
        }
    }

    // ---- 2 towns

    @Edge(promise = 2, says = "what n was. BAD")
    static void townsTooFew() {
        TollWays x = Rich.made();
        for (int n : new int[] {1, 0, -1, -2, MIN}) {
            Check.due("towns " + n, Check.BAD, x.towns(n));
        }
        Rich.stays("too few", x);
    }

    @Edge(promise = 2, says = "what n was. BAD")
    static void townsTooMany() {
        TollWays x = Rich.made();
        for (int n : new int[] {7, 8, 12, MAX}) {
            Check.due("towns " + n, Check.BAD, x.towns(n));
        }
        Rich.stays("too many", x);
    }

    @Edge(promise = 2, says = "TOWNS 0 .. n - 1, n 2 .. 6")
    static void townsLeast() {
        TollWays x = new TollWays();
        x.towns(3);
        Check.due("the least", 3, x.towns(2));
        Check.due("the last one", 0, x.road(1, 0, 0, 0, 0, 0, 0));
        Check.due("none behind it", Check.NONE, x.road(2, 0, 0, 0, 0, 0, 0));
    }

    @Edge(promise = 2, says = "TOWNS 0 .. n - 1, n 2 .. 6")
    static void townsMost() {
        TollWays x = new TollWays();
        Check.due("the most", 2, x.towns(6));
        Check.due("how many", 6, x.told(0));
        Check.due("the last one", 0, x.road(5, 4, 0, 0, 0, 0, 0));
        Check.due("none behind it", Check.NONE, x.road(0, 6, 0, 0, 0, 0, 0));
    }

    @Edge(promise = 2, says = "There are n TOWNS then, no ROADS")
    static void townsTakeRoads() {
        TollWays x = Rich.made();
        Check.due("what n was", 4, x.towns(5));
        Check.due("none", 0, x.told(1));
        Check.due("not the first", Check.NO, x.of(0, 0));
        Check.due("no tolls", 0, x.told(4));
        Check.due("the next is the first", 0, x.road(0, 4, 0, 0, 0, 0, 0));
        Check.due("without toll", 0, x.of(0, 7));
    }

    @Edge(promise = 2, says = "towns() of the number that it is: ROADS, TOLLS go all the same")
    static void townsOfTheSameNumber() {
        TollWays x = Rich.made();
        Check.due("what n was", 4, x.towns(4));
        Check.due("how many towns", 4, x.told(0));
        Check.due("no roads", 0, x.told(1));
        Check.due("no tolls", 0, x.told(4));
        for (int r = 0; r < 4; r++) {
            x.road(0, 1, 0, 0, 0, 0, 0);
            Check.due("toll of road " + r, 0, x.of(r, 7));
        }
    }

    @Edge(promise = 2, says = "CLASSES stay")
    static void townsKeepClasses() {
        TollWays x = Rich.made();
        x.towns(2);
        int[][] due = {{3, 3, 2, 1}, {2, 1, 2, 3}, {1, 0, 1, 1}};
        for (int cls = 0; cls < 3; cls++) {
            for (int what = 0; what < 4; what++) {
                Check.due("class " + cls + " what " + what, due[cls][what], x.driversOf(cls, what));
            }
        }
    }

    @Edge(promise = 2, says = "(TRAYS, LISTS, THE TAPE, THE IMAGE, too)")
    static void townsKeepTrays() {
        TollWays x = Rich.made();
        x.towns(2);
        Check.due("what was laid", 3 + 4 * 2 + 5, x.laid(0, 1, 2));
        Check.due("its size", 1, x.lays(0, 1, -1));
        Check.due("its end", Check.BEYOND, x.lays(0, 2, -1));
    }

    @Edge(promise = 2, says = "(TRAYS, LISTS, THE TAPE, THE IMAGE, too)")
    static void townsKeepLists() {
        TollWays x = Rich.made();
        x.towns(2);
        Check.due("the first", 5, x.get(1, 0));
        Check.due("the last", 7, x.get(1, 2));
        Check.due("an empty one", Check.BEYOND, x.set(2, 0, 1));
        Check.due("nothing", Check.NOTHING, x.set(3, 0, 1));
    }

    @Edge(promise = 2, says = "(TRAYS, LISTS, THE TAPE, THE IMAGE, too)")
    static void townsKeepTheTape() {
        TollWays x = Rich.made();
        x.towns(2);
        Check.due("bytes", 5, x.told(3));
        Check.due("a road", 1, x.roads());
        Check.due("its base", 7, x.of(0, 3));
    }

    @Edge(promise = 2, says = "(TRAYS, LISTS, THE TAPE, THE IMAGE, too)")
    static void townsKeepTheImage() {
        TollWays x = Rich.made();
        x.towns(2);
        Check.due("its roads", 1, x.undo());
        Check.due("its towns", 3, x.told(0));
        Check.due("its toll", 8, x.of(0, 7));
    }

    // ---- 3 road

    @Edge(promise = 3, says = "NONE: from")
    static void roadFromNowhere() {
        TollWays x = Rich.made();
        for (int town : Edges.outside(0, 3)) {
            Check.due("from " + town, Check.NONE, x.road(town, 1, 0, 0, 0, 0, 0));
        }
        Rich.stays("from nowhere", x);
    }

    @Edge(promise = 3, says = "NONE: from, to")
    static void roadToNowhere() {
        TollWays x = Rich.made();
        for (int town : Edges.outside(0, 3)) {
            Check.due("to " + town, Check.NONE, x.road(1, town, 0, 0, 0, 0, 0));
        }
        Rich.stays("to nowhere", x);
    }

    @Edge(promise = 3, says = "NONE: from, to (unlike ones)")
    static void roadToWhereItBegins() {
        TollWays x = Rich.made();
        for (int town = 0; town < 4; town++) {
            Check.due("from and to " + town, Check.NONE, x.road(town, town, 0, 0, 0, 0, 0));
        }
        Rich.stays("to where it begins", x);
    }

    @Edge(promise = 3, says = "NONE: from, to (unlike ones), kind")
    static void roadOfNoKind() {
        TollWays x = Rich.made();
        for (int kind : Edges.outside(0, 2)) {
            Check.due("kind " + kind, Check.NONE, x.road(0, 1, kind, 0, 0, 0, 0));
        }
        Rich.stays("of no kind", x);
    }

    @Edge(promise = 3, says = "COST of a ROAD for each on it, if x (1 or more) are on it, by KINDS")
    static void roadOfEachKind() {
        TollWays x = new TollWays();
        for (int kind = 0; kind < 3; kind++) {
            Check.due("its number", kind, x.road(0, 1, kind, 0, 0, 0, 0));
            Check.due("its kind", kind, x.of(kind, 2));
        }
    }

    @Edge(promise = 3, says = "BASE (0 .. 10^17)")
    static void roadBase() {
        TollWays x = Rich.made();
        for (long base : Edges.beyond(0, Edges.BASE)) {
            Check.due("base " + base, Check.BAD, x.road(0, 1, 0, base, 0, 0, 0));
        }
        Rich.stays("base", x);
        x.towns(2);
        Check.due("the least", 0, x.road(0, 1, 0, 0, 0, 0, 0));
        Check.due("the most", 1, x.road(0, 1, 0, Edges.BASE, 0, 0, 0));
        Check.due("it is that", Edges.BASE, x.of(1, 3));
    }

    @Edge(promise = 3, says = "SLOPE, STEEP (0 .. 10^14 each)")
    static void roadSlope() {
        TollWays x = Rich.made();
        for (long slope : Edges.beyond(0, Edges.SLOPE)) {
            Check.due("slope " + slope, Check.BAD, x.road(0, 1, 1, 0, slope, 0, 0));
            Check.due("of a plain one " + slope, Check.BAD, x.road(0, 1, 0, 0, slope, 0, 0));
        }
        Rich.stays("slope", x);
        x.towns(2);
        Check.due("the least", 0, x.road(0, 1, 1, 0, 0, 0, 0));
        Check.due("the most", 1, x.road(0, 1, 1, 0, Edges.SLOPE, 0, 0));
        Check.due("it is that", Edges.SLOPE, x.of(1, 4));
    }

    @Edge(promise = 3, says = "SLOPE, STEEP (0 .. 10^14 each)")
    static void roadSteep() {
        TollWays x = Rich.made();
        for (long steep : Edges.beyond(0, Edges.SLOPE)) {
            Check.due("steep " + steep, Check.BAD, x.road(0, 1, 2, 0, 0, steep, 0));
            Check.due("of a sloped one " + steep, Check.BAD, x.road(0, 1, 1, 0, 0, steep, 0));
        }
        Rich.stays("steep", x);
        x.towns(2);
        Check.due("the least", 0, x.road(0, 1, 2, 0, 0, 0, 0));
        Check.due("the most", 1, x.road(0, 1, 2, 0, 0, Edges.SLOPE, 0));
        Check.due("it is that", Edges.SLOPE, x.of(1, 5));
    }

    @Edge(promise = 3, says = "KNEE (0 .. 36)")
    static void roadKnee() {
        TollWays x = Rich.made();
        for (int knee : Edges.outside(0, 36)) {
            Check.due("knee " + knee, Check.BAD, x.road(0, 1, 2, 0, 0, 0, knee));
            Check.due("of a plain one " + knee, Check.BAD, x.road(0, 1, 0, 0, 0, 0, knee));
        }
        Rich.stays("knee", x);
        x.towns(2);
        Check.due("the least", 0, x.road(0, 1, 2, 0, 0, 0, 0));
        Check.due("the most", 1, x.road(0, 1, 2, 0, 0, 0, 36));
        Check.due("it is that", 36, x.of(1, 6));
    }

    @Edge(promise = 3, says = "BAD; FULL: 12")
    static void roadThirteenth() {
        TollWays x = Edges.parallel(11);
        Check.due("the twelfth", 11, x.road(1, 0, 0, 9, 0, 0, 0));
        Check.due("the thirteenth", Check.FULL, x.road(0, 1, 0, 9, 0, 0, 0));
        Check.due("how many", 12, x.told(1));
        Check.due("the last is what it was", 1, x.of(11, 0));
        Check.due("there is none behind it", Check.NO, x.of(12, 0));
    }

    @Edge(promise = 3, says = "ROADS, 12 at most")
    static void roadWhereOneWasClosed() {
        TollWays x = Edges.parallel(12);
        x.close(0);
        Check.due("room again", 11, x.road(1, 0, 0, 9, 0, 0, 0));
        Check.due("but for one", Check.FULL, x.road(1, 0, 0, 9, 0, 0, 0));
    }

    @Edge(promise = 3, says = "NONE: from, to (unlike ones), kind; BAD; FULL: 12")
    static void roadNamesTheFirst() {
        TollWays x = Edges.parallel(12);
        Check.due("from ahead of BAD", Check.NONE, x.road(2, 1, 0, -1, 0, 0, 0));
        Check.due("to ahead of BAD", Check.NONE, x.road(0, 2, 0, 0, -1, 0, 0));
        Check.due("kind ahead of BAD", Check.NONE, x.road(0, 1, 3, 0, 0, -1, 0));
        Check.due("NONE ahead of FULL", Check.NONE, x.road(1, 1, 0, 0, 0, 0, 0));
        Check.due("BAD ahead of FULL", Check.BAD, x.road(0, 1, 0, 0, 0, 0, 37));
    }

    @Edge(promise = 3, says = "TOLL (0 .. 10^9; 0 at first)")
    static void roadIsWithoutToll() {
        TollWays x = Edges.parallel(2);
        x.toll(1, 5);
        x.close(1);
        x.road(0, 1, 0, 1, 0, 0, 0);
        Check.due("where one with a toll was", 0, x.of(1, 7));
        x.toll(1, 5);
        x.close(1);
        Check.read(x, "0>1=1");
        Check.due("told by a text", 0, x.of(1, 7));
    }

    // ---- 4 close

    @Edge(promise = 4, says = "how many there are. NONE")
    static void closeNoRoad() {
        TollWays x = Rich.made();
        for (int road : Edges.outside(0, 3)) {
            Check.due("road " + road, Check.NONE, x.close(road));
        }
        Rich.stays("close", x);
    }

    @Edge(promise = 4, says = "how many there are. NONE")
    static void closeWithoutRoads() {
        TollWays x = Edges.parallel(1);
        Check.due("the only one", 0, x.close(0));
        Check.due("none is left", Check.NONE, x.close(0));
        Check.due("so many are there", 0, x.told(1));
    }

    @Edge(promise = 4, says = "(is one closed, later ones have 1 less)")
    static void closeTheFirst() {
        TollWays x = Rich.made();
        Check.due("three are left", 3, x.close(0));
        long[] bases = {3, 6, 7};
        long[] tolls = {0, 0, 10};
        for (int r = 0; r < 3; r++) {
            Check.due("base of road " + r, bases[r], x.of(r, 3));
            Check.due("toll of road " + r, tolls[r], x.of(r, 7));
        }
        Check.due("no fourth", Check.NO, x.of(3, 3));
    }

    @Edge(promise = 4, says = "(is one closed, later ones have 1 less)")
    static void closeTheLast() {
        TollWays x = Edges.parallel(12);
        x.toll(10, 3);
        x.toll(11, 4);
        Check.due("eleven are left", 11, x.close(11));
        Check.due("the one ahead stays", 20, x.of(10, 3));
        Check.due("its toll too", 3, x.of(10, 7));
        Check.due("no twelfth", Check.NO, x.of(11, 3));
    }

    @Edge(promise = 4, says = "(TRAYS keep what was laid)")
    static void closeKeepsTrays() {
        TollWays x = Rich.made();
        x.close(1);
        Check.due("what was laid", 3 + 4 * 2 + 5, x.laid(0, 1, 2));
    }

    // ---- 5 toll

    @Edge(promise = 5, says = "what it was. NONE: road")
    static void tollOfNoRoad() {
        TollWays x = Rich.made();
        for (int road : Edges.outside(0, 3)) {
            Check.due("road " + road, Check.NONE, x.toll(road, 1));
        }
        Rich.stays("toll", x);
    }

    @Edge(promise = 5, says = "NONE: road; BAD")
    static void tollTooLittleOrMuch() {
        TollWays x = Rich.made();
        for (long v : Edges.beyond(0, 1_000_000_000L)) {
            Check.due("toll " + v, Check.BAD, x.toll(0, v));
        }
        Rich.stays("toll", x);
    }

    @Edge(promise = 5, says = "TOLL (0 .. 10^9; 0 at first)")
    static void tollEnds() {
        TollWays x = Edges.parallel(1);
        Check.due("the most, behind none", 0, x.toll(0, 1_000_000_000L));
        Check.due("the least, behind the most", 1_000_000_000L, x.toll(0, 0));
        Check.due("it is that", 0, x.of(0, 7));
    }

    @Edge(promise = 5, says = "NONE: road; BAD")
    static void tollNamesTheFirst() {
        Check.due("NONE ahead of BAD", Check.NONE, Edges.parallel(1).toll(1, -1));
    }

    // ---- 6 of

    @Edge(promise = 6, says = "NO: road")
    static void ofNoRoad() {
        TollWays x = Edges.parallel(3);
        for (int road : Edges.outside(0, 2)) {
            Check.due("road " + road, Check.NO, x.of(road, 3));
        }
        Check.due("the last", 12, x.of(2, 3));
    }

    @Edge(promise = 6, says = "NO: road, what")
    static void ofNoWhat() {
        TollWays x = Edges.parallel(1);
        for (int what : Edges.outside(0, 7)) {
            Check.due("what " + what, Check.NO, x.of(0, what));
        }
        x.toll(0, 6);
        Check.due("the last", 6, x.of(0, 7));
    }

    // ---- 7 cost

    @Edge(promise = 7, says = "NO: road")
    static void costOfNoRoad() {
        TollWays x = Edges.parallel(3);
        for (int road : Edges.outside(0, 2)) {
            Check.due("road " + road, Check.NO, x.cost(road, 1, 0));
            Check.due("loss, road " + road, Check.NO, x.cost(road, 1, 1));
        }
    }

    @Edge(promise = 7, says = "NO: road, x")
    static void costBySoMany() {
        TollWays x = Check.made(2, "0>1=100+3");
        for (int many : Edges.outside(1, 36)) {
            Check.due("x " + many, Check.NO, x.cost(0, many, 0));
            Check.due("loss, x " + many, Check.NO, x.cost(0, many, 1));
        }
        Check.due("the least", 103, x.cost(0, 1, 0));
        Check.due("the most", 100 + 36 * 3, x.cost(0, 36, 0));
        Check.due("loss, the most", 35 * 3, x.cost(0, 36, 1));
    }

    @Edge(promise = 7, says = "NO: road, x, what")
    static void costOfNoWhat() {
        TollWays x = Edges.parallel(1);
        for (int what : Edges.outside(0, 1)) {
            Check.due("what " + what, Check.NO, x.cost(0, 1, what));
        }
    }

    @Edge(promise = 7, says = "STEEP times what x is above KNEE (0, if it isn't)")
    static void costAtTheKnee() {
        TollWays x = Check.made(2, "0>1=100+3^5:7;0>1=100+3^36:7;0>1=100+3^0:7");
        Check.due("below it", 100 + 4 * 3, x.cost(0, 4, 0));
        Check.due("at it", 100 + 5 * 3, x.cost(0, 5, 0));
        Check.due("above it", 100 + 6 * 3 + 7, x.cost(0, 6, 0));
        Check.due("at the greatest", 100 + 36 * 3, x.cost(1, 36, 0));
        Check.due("above the least", 100 + 3 + 7, x.cost(2, 1, 0));
    }

    @Edge(promise = 7, says = "LOSS, if x are on it: what the others on it lose by one")
    static void lossAtTheKnee() {
        TollWays x = Check.made(2, "0>1=100+3^5:7");
        Check.due("at it", 4 * 3, x.cost(0, 5, 1));
        Check.due("just above it", 5 * (3 + 7), x.cost(0, 6, 1));
        Check.due("farther", 6 * (3 + 7), x.cost(0, 7, 1));
    }

    @Edge(promise = 7, says = "(x less 1) times what COST by x is more than COST by x less 1 (0, if x is 1)")
    static void lossOfOneAlone() {
        TollWays x = Check.made(2, "0>1=100;0>1=100+3;0>1=100+3^0:7");
        for (int r = 0; r < 3; r++) {
            Check.due("kind " + r, 0, x.cost(r, 1, 1));
        }
    }

    @Edge(promise = 7, says = "BASE (0 .. 10^17), SLOPE, STEEP (0 .. 10^14 each), KNEE (0 .. 36)")
    static void costOfTheGreatest() {
        TollWays x = new TollWays();
        x.road(0, 1, 2, Edges.BASE, Edges.SLOPE, Edges.SLOPE, 0);
        Check.due("cost", 107_200_000_000_000_000L, x.cost(0, 36, 0));
        Check.due("loss", 7_000_000_000_000_000L, x.cost(0, 36, 1));
        x.road(0, 1, 0, Edges.BASE, Edges.SLOPE, Edges.SLOPE, 0);
        Check.due("plain", Edges.BASE, x.cost(1, 36, 0));
        x.road(0, 1, 1, 0, Edges.SLOPE, Edges.SLOPE, 0);
        Check.due("sloped", 3_600_000_000_000_000L, x.cost(2, 36, 0));
    }

    // ---- 8 drivers, 9 driversOf

    @Edge(promise = 8, says = "NONE: cls")
    static void driversOfNoClass() {
        TollWays x = Rich.made();
        for (int cls : Edges.outside(0, 2)) {
            Check.due("class " + cls, Check.NONE, x.drivers(cls, 1, 1));
        }
        Rich.stays("no class", x);
    }

    @Edge(promise = 8, says = "NONE: cls, what")
    static void driversNoWhat() {
        TollWays x = Rich.made();
        for (int what : Edges.outside(0, 3)) {
            Check.due("what " + what, Check.NONE, x.drivers(0, what, 1));
        }
        Rich.stays("no what", x);
    }

    private static void bounds(int what, int least, int most) {
        TollWays x = Rich.made();
        for (int v : Edges.outside(least, most)) {
            Check.due("what " + what + " " + v, Check.BAD, x.drivers(2, what, v));
        }
        Rich.stays("what " + what, x);
        x.drivers(2, what, most);
        Check.due("the most", most, x.drivers(2, what, least));
        Check.due("the least", least, x.driversOf(2, what));
    }

    @Edge(promise = 8, says = "TO (1 .. 5")
    static void driversTo() {
        bounds(0, 1, 5);
    }

    @Edge(promise = 8, says = "MANY (0 .. 12")
    static void driversMany() {
        bounds(1, 0, 12);
    }

    @Edge(promise = 8, says = "TIME (1 .. 9)")
    static void driversTime() {
        bounds(2, 1, 9);
    }

    @Edge(promise = 8, says = "MONEY (0 .. 9)")
    static void driversMoney() {
        bounds(3, 0, 9);
    }

    @Edge(promise = 8, says = "a TOWN that is there, when they drive")
    static void driversToATownThatIsNotThere() {
        TollWays x = Edges.parallel(1);
        Check.due("nobody yet", 1, x.drivers(0, 0, 5));
        Check.due("somebody", 0, x.drivers(0, 1, 2));
        Check.due("they can't drive", Check.STATE, x.is(0));
        x.towns(6);
        x.road(0, 5, 0, 1, 0, 0, 0);
        Check.due("they drive, when it is there", 1, x.is(0));
    }

    @Edge(promise = 8, says = "NONE: cls, what; BAD")
    static void driversNameTheFirst() {
        TollWays x = new TollWays();
        Check.due("class ahead of BAD", Check.NONE, x.drivers(3, 1, 13));
        Check.due("what ahead of BAD", Check.NONE, x.drivers(0, 4, 13));
    }

    @Edge(promise = 9, says = "Of a CLASS what (as above). NONE")
    static void driversOfClass() {
        TollWays x = new TollWays();
        for (int cls : Edges.outside(0, 2)) {
            Check.due("class " + cls, Check.NONE, x.driversOf(cls, 0));
        }
        x.drivers(2, 0, 4);
        Check.due("the last class", 4, x.driversOf(2, 0));
    }

    @Edge(promise = 9, says = "Of a CLASS what (as above). NONE")
    static void driversOfWhat() {
        TollWays x = new TollWays();
        for (int what : Edges.outside(0, 3)) {
            Check.due("what " + what, Check.NONE, x.driversOf(0, what));
        }
        x.drivers(0, 3, 7);
        Check.due("the last what", 7, x.driversOf(0, 3));
    }

    // ---- 10 feed, 11 clear

    @Edge(promise = 10, says = "BAD; FULL")
    static void feedNoByte() {
        TollWays x = Rich.made();
        for (int letter : Edges.outside(1, 127)) {
            Check.due("letter " + letter, Check.BAD, x.feed(letter));
        }
        Rich.stays("no byte", x);
    }

    @Edge(promise = 10, says = "A byte (1 .. 127) comes behind THE TAPE's")
    static void feedEnds() {
        TollWays x = new TollWays();
        Check.due("the least", 1, x.feed(1));
        Check.due("the most", 2, x.feed(127));
        Check.due("both are there", 2, x.told(3));
    }

    @Edge(promise = 10, says = "THE TAPE holds 0 .. 100 bytes")
    static void feedFull() {
        TollWays x = Check.made(2, "0>1=5");
        String text = "0>1=6;0>1=";
        Check.feed(x, text);
        for (int k = text.length() + 1; k <= 100; k++) {
            Check.due("so many", k, x.feed('0'));
        }
        Check.due("one more", Check.FULL, x.feed('x'));
        Check.due("again", Check.FULL, x.feed(1));
        Check.due("a hundred stay", 100, x.told(3));
        Check.due("as they were", -116, x.roads());
    }

    @Edge(promise = 10, says = "BAD; FULL")
    static void feedNamesTheFirst() {
        TollWays x = new TollWays();
        for (int k = 0; k < 100; k++) {
            x.feed('0');
        }
        Check.due("below, ahead of FULL", Check.BAD, x.feed(0));
        Check.due("above, ahead of FULL", Check.BAD, x.feed(128));
    }

    @Edge(promise = 11, says = "THE TAPE is empty then: how many bytes it had")
    static void clearEmpty() {
        TollWays x = Rich.made();
        x.clear();
        Check.due("it had none", 0, x.clear());
        Check.due("it has none", 0, x.told(3));
        Check.due("nothing is read", -100, x.roads());
        Check.due("roads are as they were", 4, x.told(1));
    }

    @Edge(promise = 11, says = "THE TAPE is empty then: how many bytes it had")
    static void clearFull() {
        TollWays x = new TollWays();
        for (int k = 0; k < 101; k++) {
            x.feed('0');
        }
        Check.due("it had a hundred", 100, x.clear());
        Check.due("it has none", 0, x.told(3));
        Check.due("room again", 1, x.feed('0'));
    }
}
