/** Promises 1 to 12: what is told. */
public final class ToldTest {
    private static final long BASE = 100_000_000_000_000_000L;
    private static final long SLOPE = 100_000_000_000_000L;

    public static void main(String[] args) {
        newObject();
        towns();
        road();
        close();
        toll();
        of();
        cost();
        drivers();
        tape();
        texts();
        faults();
        room();
        Check.finish();
    }

    private static void newObject() {
        TollWays x = new TollWays();
        Check.due("1 towns", 2, x.told(0));
        Check.due("1 roads", 0, x.told(1));
        Check.due("1 drivers", 0, x.told(2));
        Check.due("1 bytes", 0, x.told(3));
        Check.due("1 tolls", 0, x.told(4));
        for (int cls = 0; cls < 3; cls++) {
            int[] first = {1, 0, 1, 1};
            for (int what = 0; what < 4; what++) {
                Check.due("1 class " + cls + " trait " + what, first[what], x.driversOf(cls, what));
            }
        }
        Check.due("1 no image", Check.STATE, x.undo());
        Check.due("1 no list", Check.NOTHING, x.set(3, 0, 1));
        Check.due("1 no tray", Check.NOTHING, x.lays(2, 0, -1));
    }

    private static void towns() {
        TollWays x = Check.made(3, "0>1=1;1>2=2");
        x.toll(1, 5);
        x.drivers(1, 0, 2);
        x.drivers(1, 1, 7);
        x.list(0, 1);
        x.tray(0, 0, 1);
        x.lays(0, 0, 0);
        x.feed('0');
        Check.due("2 below", Check.BAD, x.towns(1));
        Check.due("2 above", Check.BAD, x.towns(7));
        Check.due("2 far", Check.BAD, x.towns(Integer.MIN_VALUE));
        Check.due("2 BAD keeps roads", 2, x.told(1));
        Check.due("2 image", 2, x.image());
        Check.due("2 the same number", 3, x.towns(3));
        Check.due("2 roads go all the same", 0, x.told(1));
        Check.due("2 tolls too", 0, x.told(4));
        Check.due("2 classes stay", 7, x.driversOf(1, 1));
        Check.due("2 the tape stays", 1, x.told(3));
        Check.due("2 lists stay", 0, x.get(0, 0));
        Check.due("2 trays stay", 1, x.laid(0, 0, 1));
        Check.due("2 what it was", 3, x.towns(6));
        Check.due("2 to the least", 6, x.towns(2));
        Check.due("2 the image stays", 2, x.undo());
        Check.due("2 with its towns", 3, x.told(0));
        Check.due("2 with its tolls", 5, x.told(4));
        x.towns(3);
        Check.due("2 a new road is without toll", 0, x.road(0, 1, 0, 1, 0, 0, 0));
        Check.due("2 toll", 0, x.of(0, 7));
        x.road(0, 1, 0, 1, 0, 0, 0);
        Check.due("2 toll of the second", 0, x.of(1, 7));
    }

    private static void road() {
        TollWays x = new TollWays();
        x.towns(3);
        Check.due("3 first", 0, x.road(0, 1, 2, BASE, SLOPE, SLOPE, 36));
        Check.due("3 second", 1, x.road(2, 0, 0, 0, 0, 0, 0));
        Check.due("3 from below", Check.NONE, x.road(-1, 1, 0, 0, 0, 0, 0));
        Check.due("3 from above", Check.NONE, x.road(3, 1, 0, 0, 0, 0, 0));
        Check.due("3 to below", Check.NONE, x.road(0, -1, 0, 0, 0, 0, 0));
        Check.due("3 to above", Check.NONE, x.road(0, 3, 0, 0, 0, 0, 0));
        Check.due("3 alike", Check.NONE, x.road(1, 1, 0, 0, 0, 0, 0));
        Check.due("3 kind below", Check.NONE, x.road(0, 1, -1, 0, 0, 0, 0));
        Check.due("3 kind above", Check.NONE, x.road(0, 1, 3, 0, 0, 0, 0));
        Check.due("3 NONE ahead of BAD", Check.NONE, x.road(0, 1, 3, -1, -1, -1, -1));
        Check.due("3 base below", Check.BAD, x.road(0, 1, 0, -1, 0, 0, 0));
        Check.due("3 base above", Check.BAD, x.road(0, 1, 0, BASE + 1, 0, 0, 0));
        Check.due("3 slope below", Check.BAD, x.road(0, 1, 0, 0, -1, 0, 0));
        Check.due("3 slope above", Check.BAD, x.road(0, 1, 0, 0, SLOPE + 1, 0, 0));
        Check.due("3 steep below", Check.BAD, x.road(0, 1, 0, 0, 0, -1, 0));
        Check.due("3 steep above", Check.BAD, x.road(0, 1, 0, 0, 0, SLOPE + 1, 0));
        Check.due("3 knee below", Check.BAD, x.road(0, 1, 0, 0, 0, 0, -1));
        Check.due("3 knee above", Check.BAD, x.road(0, 1, 0, 0, 0, 0, 37));
        Check.due("3 none came", 2, x.told(1));
        for (int k = 2; k < 12; k++) {
            Check.due("3 number", k, x.road(1, 0, 1, k, 0, 0, 0));
        }
        Check.due("3 the thirteenth", Check.FULL, x.road(1, 0, 1, 0, 0, 0, 0));
        Check.due("3 BAD ahead of FULL", Check.BAD, x.road(1, 0, 1, -1, 0, 0, 0));
        Check.due("3 NONE ahead of FULL", Check.NONE, x.road(1, 1, 1, 0, 0, 0, 0));
        Check.due("3 twelve", 12, x.told(1));
    }

    private static void close() {
        TollWays x = Check.made(3, "0>1=10;0>1=11;0>1=12;1>2=13");
        for (int r = 0; r < 4; r++) {
            x.toll(r, 100 + r);
        }
        x.tray(0, 0, 1);
        x.lays(0, 0, 1);
        Check.due("4 below", Check.NONE, x.close(-1));
        Check.due("4 above", Check.NONE, x.close(4));
        Check.due("4 how many are left", 3, x.close(1));
        Check.due("4 those ahead stay", 10, x.of(0, 3));
        Check.due("4 later ones have 1 less", 12, x.of(1, 3));
        Check.due("4 the last too", 13, x.of(2, 3));
        Check.due("4 its towns", 2, x.of(2, 1));
        Check.due("4 tolls go along", 102, x.of(1, 7));
        Check.due("4 tolls of the last", 103, x.of(2, 7));
        Check.due("4 no fourth", Check.NO, x.of(3, 3));
        Check.due("4 sum of tolls", 305, x.told(4));
        Check.due("4 trays keep it", 11, x.laid(0, 0, 1));
        Check.due("4 the last one", 2, x.close(2));
        Check.due("4 again", 1, x.close(1));
        Check.due("4 none left", 0, x.close(0));
        Check.due("4 nothing to close", Check.NONE, x.close(0));
        Check.due("4 a new one is without toll", 0, x.road(0, 1, 0, 1, 0, 0, 0));
        Check.due("4 toll", 0, x.of(0, 7));
    }

    private static void toll() {
        TollWays x = Check.made(2, "0>1=1;0>1=2");
        Check.due("5 what it was", 0, x.toll(1, 1_000_000_000L));
        Check.due("5 again", 1_000_000_000L, x.toll(1, 7));
        Check.due("5 below", Check.BAD, x.toll(1, -1));
        Check.due("5 above", Check.BAD, x.toll(1, 1_000_000_001L));
        Check.due("5 NONE ahead of BAD", Check.NONE, x.toll(2, -1));
        Check.due("5 road below", Check.NONE, x.toll(-1, 1));
        Check.due("5 it stays", 7, x.of(1, 7));
        Check.due("5 the other's", 0, x.of(0, 7));
    }

    private static void of() {
        TollWays x = new TollWays();
        x.towns(6);
        x.road(4, 5, 1, 11, 12, 13, 14);
        x.toll(0, 15);
        long[] due = {4, 5, 1, 11, 12, 13, 14, 15};
        for (int what = 0; what < 8; what++) {
            Check.due("6 what " + what, due[what], x.of(0, what));
        }
        Check.due("6 what above", Check.NO, x.of(0, 8));
        Check.due("6 what below", Check.NO, x.of(0, -1));
        Check.due("6 road above", Check.NO, x.of(1, 0));
        Check.due("6 road below", Check.NO, x.of(-1, 0));
    }

    private static void cost() {
        TollWays x = new TollWays();
        x.road(0, 1, 0, 7, 3, 2, 0);
        x.road(0, 1, 1, 7, 3, 2, 0);
        x.road(0, 1, 2, 7, 3, 2, 4);
        x.road(0, 1, 2, BASE, SLOPE, SLOPE, 0);
        Check.due("7 plain", 7, x.cost(0, 9, 0));
        Check.due("7 plain loses nothing", 0, x.cost(0, 9, 1));
        Check.due("7 sloped", 7 + 3 * 9, x.cost(1, 9, 0));
        Check.due("7 sloped, loss", 8 * 3, x.cost(1, 9, 1));
        Check.due("7 at the knee", 7 + 3 * 4, x.cost(2, 4, 0));
        Check.due("7 loss at the knee", 3 * 3, x.cost(2, 4, 1));
        Check.due("7 above the knee", 7 + 3 * 5 + 2, x.cost(2, 5, 0));
        Check.due("7 loss above the knee", 4 * 5, x.cost(2, 5, 1));
        Check.due("7 farther", 7 + 3 * 6 + 4, x.cost(2, 6, 0));
        Check.due("7 alone loses nobody", 0, x.cost(3, 1, 1));
        Check.due("7 great", BASE + 72 * SLOPE, x.cost(3, 36, 0));
        Check.due("7 great loss", 70 * SLOPE, x.cost(3, 36, 1));
        Check.due("7 x below", Check.NO, x.cost(0, 0, 0));
        Check.due("7 x above", Check.NO, x.cost(0, 37, 0));
        Check.due("7 what", Check.NO, x.cost(0, 1, 2));
        Check.due("7 what below", Check.NO, x.cost(0, 1, -1));
        Check.due("7 road", Check.NO, x.cost(4, 1, 0));
        Check.due("7 road below", Check.NO, x.cost(-1, 1, 0));
    }

    private static void drivers() {
        TollWays x = new TollWays();
        int[] first = {1, 0, 1, 1};
        int[] least = {1, 0, 1, 0};
        int[] most = {5, 12, 9, 9};
        for (int cls = 0; cls < 3; cls++) {
            for (int what = 0; what < 4; what++) {
                String name = "8 class " + cls + " trait " + what;
                Check.due(name + " most", first[what], x.drivers(cls, what, most[what]));
                Check.due(name + " above", Check.BAD, x.drivers(cls, what, most[what] + 1));
                Check.due(name + " below", Check.BAD, x.drivers(cls, what, least[what] - 1));
                Check.due("9" + name, most[what], x.driversOf(cls, what));
                Check.due(name + " least", most[what], x.drivers(cls, what, least[what]));
                Check.due("9" + name, least[what], x.driversOf(cls, what));
            }
        }
        Check.due("8 class below", Check.NONE, x.drivers(-1, 0, 1));
        Check.due("8 class above", Check.NONE, x.drivers(3, 0, 1));
        Check.due("8 trait below", Check.NONE, x.drivers(0, -1, 1));
        Check.due("8 trait above", Check.NONE, x.drivers(0, 4, 1));
        Check.due("8 NONE ahead of BAD", Check.NONE, x.drivers(3, 0, 99));
        Check.due("9 class below", Check.NONE, x.driversOf(-1, 0));
        Check.due("9 class above", Check.NONE, x.driversOf(3, 0));
        Check.due("9 trait below", Check.NONE, x.driversOf(0, -1));
        Check.due("9 trait above", Check.NONE, x.driversOf(0, 4));
    }

    private static void tape() {
        TollWays x = new TollWays();
        Check.due("10 below", Check.BAD, x.feed(0));
        Check.due("10 above", Check.BAD, x.feed(128));
        Check.due("10 least", 1, x.feed(1));
        Check.due("10 most", 2, x.feed(127));
        Check.due("11 had", 2, x.clear());
        Check.due("11 nothing", 0, x.clear());
        for (int k = 1; k <= 100; k++) {
            Check.due("10 so many", k, x.feed('0'));
        }
        Check.due("10 full", Check.FULL, x.feed('0'));
        Check.due("10 BAD ahead of FULL", Check.BAD, x.feed(-1));
        Check.due("10 a hundred", 100, x.told(3));
        Check.due("12 a fault", -101, x.roads());
        Check.due("12 empty behind it", 0, x.told(3));
    }

    private static void texts() {
        TollWays x = new TollWays();
        x.towns(6);
        x.road(0, 1, 2, 1, 2, 3, 4);
        Check.due("12 four came", 4,
                Check.read(x, "0>5=999999;5>4=0+000007;1>0=12+34^36:567890;2>3=4+5^09:6"));
        Check.due("12 behind those there are", 5, x.told(1));
        Check.due("12 the tape is empty", 0, x.told(3));
        long[][] due = {{0, 5, 0, 999999, 0, 0, 0, 0}, {5, 4, 1, 0, 7, 0, 0, 0},
            {1, 0, 2, 12, 34, 567890, 36, 0}, {2, 3, 2, 4, 5, 6, 9, 0}};
        for (int r = 0; r < 4; r++) {
            for (int what = 0; what < 8; what++) {
                Check.due("12 road " + r + " what " + what, due[r][what], x.of(r + 1, what));
            }
        }
        Check.due("12 zeros", 1, Check.read(x, "0>1=0+0^0:0"));
        Check.due("12 is kneed", 2, x.of(5, 2));
    }

    private static void fault(TollWays x, String text, int place) {
        long before = x.told(1);
        Check.due("12 fault of " + text, -100 - place, Check.read(x, text));
        Check.due("12 nothing came by " + text, before, x.told(1));
        Check.due("12 the tape is empty behind " + text, 0, x.told(3));
    }

    private static void faults() {
        faultInThreeTowns("", 0);
        faultInThreeTowns("x", 0);
        faultInThreeTowns(";", 0);
        faultInThreeTowns("3", 0);
        faultInThreeTowns("3x", 0);
        faultInThreeTowns("0", 1);
        faultInThreeTowns("0=", 1);
        faultInThreeTowns("00>1=1", 1);
        faultInThreeTowns("0>", 2);
        faultInThreeTowns("0>3", 2);
        faultInThreeTowns("0>0", 2);
        faultInThreeTowns("0>0=1", 2);
        faultInThreeTowns("0>x", 2);
        faultInThreeTowns("0>1", 3);
        faultInThreeTowns("0>11=1", 3);
        faultInThreeTowns("0>1=", 4);
        faultInThreeTowns("0>1=+1", 4);
        faultInThreeTowns("0>1=-1", 4);
        faultInThreeTowns("0>1=1000000", 10);
        faultInThreeTowns("0>1=1^1:1", 5);
        faultInThreeTowns("0>1=1 ", 5);
        faultInThreeTowns(" 0>1=1", 0);
        faultInThreeTowns("0>1=1+", 6);
        faultInThreeTowns("0>1=1+1234567", 12);
        faultInThreeTowns("0>1=1+1+1", 7);
        faultInThreeTowns("0>1=1+1:1", 7);
        faultInThreeTowns("0>1=1+1^", 8);
        faultInThreeTowns("0>1=1+1^:1", 8);
        faultInThreeTowns("0>1=1+1^37:1", 8);
        faultInThreeTowns("0>1=1+1^99", 8);
        faultInThreeTowns("0>1=1+1^99x", 8);
        faultInThreeTowns("0>1=1+1^3", 9);
        faultInThreeTowns("0>1=1+1^36", 10);
        faultInThreeTowns("0>1=1+1^036:1", 10);
        faultInThreeTowns("0>1=1+1^3;", 9);
        faultInThreeTowns("0>1=1+1^3:", 10);
        faultInThreeTowns("0>1=1+1^3:x", 10);
        faultInThreeTowns("0>1=1+1^3:1234567", 16);
        faultInThreeTowns("0>1=1+1^3:1+1", 11);
        faultInThreeTowns("0>1=1;", 6);
        faultInThreeTowns("0>1=1;;", 6);
        faultInThreeTowns("0>1=1;1>1=2", 8);
        faultInThreeTowns("0>1=1;1>2=2;2>0=3+4^40:1", 20);
    }

    /** On an object of its own, for one object is good for 512 calls. */
    private static void faultInThreeTowns(String text, int place) {
        TollWays x = new TollWays();
        x.towns(3);
        fault(x, text, place);
    }

    private static void room() {
        TollWays x = Check.made(2, "0>1=1;0>1=2;0>1=3;0>1=4;0>1=5;0>1=6;0>1=7;0>1=8;0>1=9;0>1=10;0>1=11");
        Check.due("12 eleven", 11, x.told(1));
        fault(x, "0>1=1;0>1=2", 6);
        fault(x, "0>1=1;x", 6);
        fault(x, "0>1=1;", 6);
        fault(x, "0>0=1;0>1=1", 2);
        Check.due("12 the twelfth", 1, Check.read(x, "0>1=1"));
        fault(x, "", 0);
        fault(x, "x", 0);
        fault(x, "0>1=1", 0);
        x.close(3);
        Check.due("12 room again", 1, Check.read(x, "1>0=1"));
    }
}
