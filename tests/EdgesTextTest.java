/** Promise 12: a test for each sentence that names a boundary case of a text. */
public final class EdgesTextTest {
    /** A text of one road with all that may be told. */
    private static final String WHOLE = "0>1=2+3^4:5";

    public static void main(String[] args) throws Exception {
        Edges.run(EdgesTextTest.class);
    }

    /** In three towns, with one road there. */
    private static void fault(String text, int place) {
        TollWays x = Check.made(3, "2>1=9");
        faultOn(x, text, place);
    }

    private static void faultOn(TollWays x, String text, int place) {
        long before = x.told(1);
        Check.due("fault of " + text, -100 - place, Check.read(x, text));
        Check.due("nothing came by " + text, before, x.told(1));
    }

    private static void comes(String text, int many) {
        TollWays x = new TollWays();
        x.towns(3);
        Check.due(text, many, Check.read(x, text));
        Check.due("so many are there by " + text, many, x.told(1));
    }

    @Edge(promise = 12, says = "parts, one or more, parted by ;")
    static void nothing() {
        fault("", 0);
    }

    @Edge(promise = 12, says = "parts, one or more, parted by ;")
    static void onePart() {
        comes("0>1=2", 1);
        comes("0>1=2;1>2=3", 2);
    }

    @Edge(promise = 12, says = "parts, one or more, parted by ;")
    static void emptyParts() {
        fault(";", 0);
        fault(";0>1=2", 0);
        fault("0>1=2;", 6);
        fault("0>1=2;;0>1=2", 6);
    }

    @Edge(promise = 12, says = "the length, if it ends too early")
    static void endsTooEarly() {
        for (int length : new int[] {0, 1, 2, 3, 4, 6, 8, 9, 10}) {
            fault(WHOLE.substring(0, length), length);
        }
    }

    @Edge(promise = 12, says = "then, if one likes, + SLOPE, and behind that, if one likes, ^ KNEE : STEEP")
    static void endsWhereItMay() {
        comes(WHOLE.substring(0, 5), 1);
        comes(WHOLE.substring(0, 7), 1);
        comes(WHOLE, 1);
    }

    @Edge(promise = 12, says = "then, if one likes, + SLOPE, and behind that, if one likes, ^ KNEE : STEEP")
    static void kneeWithoutSlope() {
        fault("0>1=2^4:5", 5);
        fault("0>1=2:5", 5);
        fault("0>1=2+3:5", 7);
        fault("0>1=2+3+4", 7);
        fault("0>1=2+3^4:5+6", 11);
        fault("0>1=2+3^4:5^6", 11);
    }

    @Edge(promise = 12, says = "A ROAD is KNEED, if KNEE is told, else SLOPED, if SLOPE is, else PLAIN")
    static void kindsByWhatIsTold() {
        TollWays x = new TollWays();
        Check.read(x, "0>1=0;0>1=0+0;0>1=0+0^0:0");
        for (int kind = 0; kind < 3; kind++) {
            Check.due("kind, though all is 0", kind, x.of(kind, 2));
        }
    }

    @Edge(promise = 12, says = "(no blanks stand anywhere)")
    static void blanks() {
        for (int place = 0; place <= WHOLE.length(); place++) {
            fault(WHOLE.substring(0, place) + " " + WHOLE.substring(place), place);
        }
    }

    @Edge(promise = 12, says = "TOWNS are 1 figure")
    static void townsOfTwoFigures() {
        fault("00>1=2", 1);
        fault("0>01=2", 2);
        fault("0>10=2", 3);
    }

    @Edge(promise = 12, says = "TOWNS are 1 figure")
    static void townsOfNoFigure() {
        fault(">1=2", 0);
        fault("a>1=2", 0);
        fault("0>=2", 2);
        fault("0>a=2", 2);
        fault("0>/=2", 2);
        fault("0>:=2", 2);
    }

    @Edge(promise = 12, says = "BASE, SLOPE, STEEP 1 to 6")
    static void baseOfSoManyFigures() {
        fault("0>1=", 4);
        fault("0>1=+1", 4);
        fault("0>1=/", 4);
        fault("0>1=:", 4);
        comes("0>1=7", 1);
        comes("0>1=000007", 1);
        TollWays x = new TollWays();
        Check.due("six", 1, Check.read(x, "0>1=999999"));
        Check.due("it is that", 999_999, x.of(0, 3));
        fault("0>1=0000001", 10);
    }

    @Edge(promise = 12, says = "BASE, SLOPE, STEEP 1 to 6")
    static void slopeOfSoManyFigures() {
        fault("0>1=1+", 6);
        fault("0>1=1+;", 6);
        TollWays x = new TollWays();
        Check.due("six", 1, Check.read(x, "0>1=1+999998"));
        Check.due("it is that", 999_998, x.of(0, 4));
        fault("0>1=1+0000001", 12);
    }

    @Edge(promise = 12, says = "BASE, SLOPE, STEEP 1 to 6")
    static void steepOfSoManyFigures() {
        fault("0>1=1+2^3:", 10);
        fault("0>1=1+2^3:;", 10);
        TollWays x = new TollWays();
        Check.due("six", 1, Check.read(x, "0>1=1+2^3:999997"));
        Check.due("it is that", 999_997, x.of(0, 5));
        fault("0>1=1+2^3:0000001", 16);
    }

    @Edge(promise = 12, says = "KNEE 1 or 2 (no more are taken")
    static void kneeOfSoManyFigures() {
        fault("0>1=1+2^:1", 8);
        TollWays x = new TollWays();
        Check.due("one and two", 2, Check.read(x, "0>1=1+2^3:1;0>1=1+2^04:1"));
        Check.due("one", 3, x.of(0, 6));
        Check.due("two", 4, x.of(1, 6));
        fault("0>1=1+2^004:1", 10);
        fault("0>1=1+2^361:1", 10);
    }

    @Edge(promise = 12, says = "of a number that may not be (TO that is FROM, too), where it begins")
    static void kneeTooGreat() {
        TollWays x = new TollWays();
        Check.due("the most", 1, Check.read(x, "0>1=1+2^36:1"));
        Check.due("it is that", 36, x.of(0, 6));
        fault("0>1=1+2^37:1", 8);
        fault("0>1=1+2^99:1", 8);
    }

    @Edge(promise = 12, says = "they are looked at ahead of the byte behind")
    static void kneeAheadOfTheByteBehind() {
        fault("0>1=1+2^37", 8);
        fault("0>1=1+2^37;", 8);
        fault("0>1=1+2^371:1", 8);
        fault("0>1=1+2^40 ", 8);
        fault("0>1=1+2^4 ", 9);
    }

    @Edge(promise = 12, says = "they are looked at ahead of the byte behind")
    static void townAheadOfTheByteBehind() {
        fault("3", 0);
        fault("9x", 0);
        fault("0>3", 2);
        fault("0>3x", 2);
        fault("0>0", 2);
        fault("0>0x", 2);
    }

    @Edge(promise = 12, says = "of a number that may not be (TO that is FROM, too), where it begins")
    static void fromNowhere() {
        fault("3>1=2", 0);
        fault("9>1=2", 0);
        comes("2>1=2", 1);
        fault("0>1=2;3>1=2", 6);
    }

    @Edge(promise = 12, says = "of a number that may not be (TO that is FROM, too), where it begins")
    static void toNowhere() {
        fault("0>3=2", 2);
        fault("0>9=2", 2);
        comes("0>2=2", 1);
        fault("0>1=2;0>3=2", 8);
    }

    @Edge(promise = 12, says = "of a number that may not be (TO that is FROM, too), where it begins")
    static void toWhereItBegins() {
        fault("0>0=2", 2);
        fault("2>2=2", 2);
        fault("0>1=2;1>1=2", 8);
    }

    @Edge(promise = 12, says = "of a number that may not be (TO that is FROM, too), where it begins")
    static void townsByHowManyThereAre() {
        TollWays x = new TollWays();
        faultOn(x, "0>2=1", 2);
        x.towns(6);
        Check.due("the last of six", 2, Check.read(x, "5>4=1;4>5=1"));
        faultOn(x, "6>0=1", 0);
        faultOn(x, "0>6=1", 2);
    }

    @Edge(promise = 12, says = "of a ROAD for which there is no room, where it begins")
    static void noRoomForTheThirteenth() {
        TollWays x = Edges.parallel(10);
        faultOn(x, "0>1=1;0>1=2;0>1=3", 12);
        Check.due("two have room", 2, Check.read(x, "0>1=1;0>1=2"));
        Check.due("twelve are there", 12, x.told(1));
        faultOn(x, "0>1=3", 0);
    }

    @Edge(promise = 12, says = "(whatever stands there; ahead of all else in it)")
    static void noRoomAheadOfAllElse() {
        TollWays x = Edges.parallel(11);
        faultOn(x, "0>1=1;x", 6);
        faultOn(x, "0>1=1; 0>1=1", 6);
        faultOn(x, "0>1=1;0>0=1", 6);
        faultOn(x, "0>1=1;;", 6);
        faultOn(x, "0>1=1;0>1=1+1^37:1", 6);
    }

    @Edge(promise = 12, says = "The ROAD that would be the 13th is the FAULT where it begins, also if nothing stands there")
    static void noRoomForNothing() {
        TollWays x = Edges.parallel(12);
        faultOn(x, "", 0);
        x.close(0);
        faultOn(x, "0>1=1;", 6);
    }

    @Edge(promise = 12, says = "FAULT of a text (the first that is met from the left)")
    static void theFirstFault() {
        fault("0>1=2;0>0=2;9", 8);
        fault("0>1=2x;0>0=2", 5);
        fault("0>1=2+3^37:1;x", 8);
        TollWays x = Edges.parallel(11);
        faultOn(x, "0>0=1;0>1=1", 2);
        faultOn(x, "0>1=1x0>1=1", 5);
    }

    @Edge(promise = 12, says = "the place (from 0) of the first byte with which no such text goes on")
    static void wrongBytes() {
        for (int place = 0; place < WHOLE.length(); place++) {
            fault(WHOLE.substring(0, place) + "x" + WHOLE.substring(place + 1), place);
        }
        fault(WHOLE + "x", 11);
        TollWays x = new TollWays();
        x.feed(1);
        Check.due("the least byte", -100, x.roads());
        x.feed(127);
        Check.due("the greatest byte", -100, x.roads());
    }

    @Edge(promise = 12, says = "A text with a FAULT does nothing")
    static void faultDoesNothing() {
        TollWays x = Rich.made();
        x.clear();
        Check.due("two roads, and a third with a fault", -114, Check.read(x, "0>1=1;1>2=2;2>2=3"));
        Check.feed(x, "0>1=7");
        Rich.stays("a text with a fault", x);
    }

    @Edge(promise = 12, says = "THE TAPE is empty behind each call that reads it")
    static void tapeIsEmptyBehindIt() {
        TollWays x = new TollWays();
        Check.due("a road", 1, Check.read(x, "0>1=1"));
        Check.due("empty behind it", 0, x.told(3));
        Check.due("no second time", -100, x.roads());
        Check.due("a fault", -105, Check.read(x, "0>1=1x"));
        Check.due("empty behind a fault", 0, x.told(3));
        Check.due("the next begins anew", 1, Check.read(x, "0>1=2"));
        Check.due("two came", 2, x.told(1));
    }

    @Edge(promise = 12, says = "They come behind those there are")
    static void behindThoseThereAre() {
        TollWays x = Check.made(2, "0>1=1");
        Check.due("two came", 2, Check.read(x, "0>1=2;1>0=3"));
        for (int r = 0; r < 3; r++) {
            Check.due("base of road " + r, r + 1, x.of(r, 3));
        }
    }

    @Edge(promise = 12, says = "THE TAPE holds 0 .. 100 bytes")
    static void wholeTapeIsRead() {
        String road = "0>1=999999+999999^36:999999";
        String text = road + ";" + road + ";" + road + ";0>1=999999+99999";
        Check.due("a hundred bytes", 100, text.length());
        TollWays x = new TollWays();
        Check.due("four roads", 4, Check.read(x, text));
        Check.due("to the last byte", 99_999, x.of(3, 4));
        Check.due("a fault of the last byte", -199, Check.read(x, text.substring(0, 99) + "+"));
        String early = text.substring(0, 84) + "0>1=12345+12345^";
        Check.due("the fault behind the last byte", -200, Check.read(x, early));
    }

    @Edge(promise = 12, says = "how many came")
    static void twelveOfOneText() {
        TollWays x = new TollWays();
        StringBuilder text = new StringBuilder("0>1=0");
        for (int k = 1; k < 12; k++) {
            text.append(";0>1=").append(k % 10);
        }
        Check.due("twelve", 12, Check.read(x, text.toString()));
        Check.due("the last one", 1, x.of(11, 3));
        x.towns(2);
        Check.due("thirteen", -172, Check.read(x, text + ";0>1=1"));
        Check.due("none came", 0, x.told(1));
    }
}
