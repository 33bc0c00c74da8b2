/** Promises 33 to 44: told loads, trays, rows, the image. */
public final class RowsTest {
    private static final long BASE = 100_000_000_000_000_000L;
    private static final String BRAESS = "0>1=0+10;0>2=50+1;1>3=50+1;2>3=0+10;1>2=10+1";

    public static void main(String[] args) {
        lay();
        layEdges();
        judge();
        judgeGreat();
        judgeOver();
        trays();
        traysKeep();
        like();
        told();
        lists();
        image();
        Check.finish();
    }

    private static void holds(TollWays x, String what, int list, long... due) {
        for (int i = 0; i < due.length; i++) {
            Check.due(what + " place " + i, due[i], x.get(list, i));
        }
        Check.due(what + " ends", Check.NO, x.get(list, due.length));
    }

    private static void put(TollWays x, int list, long... values) {
        x.list(list, values.length);
        for (int i = 0; i < values.length; i++) {
            x.set(list, i, values[i]);
        }
    }

    private static void lay() {
        TollWays x = Check.made(4, BRAESS);
        Check.crowd(x, 0, 3, 6, 1, 1);
        put(x, 1, 9, 9, 9, 9, 9, 9, 9);
        Check.due("33 five", 5, x.lay(1, 1, 0));
        holds(x, "33", 1, 9, 4, 2, 2, 4, 2, 9);
        Check.due("33 marginal", 5, x.lay(1, 2, 2));
        holds(x, "33 marginal", 1, 9, 4, 3, 3, 3, 3, 0);
        put(x, 1, 9, 9, 9, 9, 9, 9, 9);
        Check.due("33 not all", Check.BEYOND, x.lay(1, 5, 0));
        holds(x, "33 those that had a place", 1, 9, 9, 9, 9, 9, 4, 2);
        put(x, 1, 9, 9, 9, 9, 9, 9, 9);
        Check.due("33 below", Check.BEYOND, x.lay(1, -1, 0));
        Check.due("33 behind", Check.BEYOND, x.lay(1, 7, 0));
        Check.due("33 far behind", Check.BEYOND, x.lay(1, Integer.MAX_VALUE, 0));
        Check.due("33 far below", Check.BEYOND, x.lay(1, Integer.MIN_VALUE, 0));
        holds(x, "33 none", 1, 9, 9, 9, 9, 9, 9, 9);
        Check.due("33 nothing", Check.NOTHING, x.lay(0, 0, 0));
        Check.due("33 list below", Check.NONE, x.lay(-1, 0, 0));
        Check.due("33 list above", Check.NONE, x.lay(4, 0, 0));
        Check.due("33 mode below", Check.NONE, x.lay(1, 0, -1));
        Check.due("33 mode above", Check.NONE, x.lay(1, 0, 3));
        Check.due("33 NONE ahead of NOTHING", Check.NONE, x.lay(0, 0, 3));
        Check.crowd(x, 1, 5, 1, 1, 1);
        Check.due("33 none steady", Check.STATE, x.lay(1, 0, 0));
        Check.due("33 STATE ahead of BEYOND", Check.STATE, x.lay(1, -1, 0));
        Check.due("33 NOTHING ahead of STATE", Check.NOTHING, x.lay(2, 0, 0));
        holds(x, "33 nothing laid", 1, 9, 9, 9, 9, 9, 9, 9);
    }

    private static void layEdges() {
        TollWays x = new TollWays();
        x.list(2, 0);
        Check.due("33 no roads", 0, x.lay(2, 0, 1));
        x.list(2, 3);
        Check.due("33 no roads, at the end", 0, x.lay(2, 3, 1));
        Check.read(x, "0>1=1;0>1=0+1");
        x.drivers(0, 1, 2);
        Check.due("33 all the last places", 2, x.lay(2, 1, 0));
        holds(x, "33 last places", 2, 0, 2, 0);
    }

    private static void judge() {
        TollWays x = Check.made(4, BRAESS);
        Check.crowd(x, 0, 3, 6, 1, 1);
        put(x, 0, 3, 3, 3, 3, 0);
        Check.due("34 best", 2, x.judge(0, 0));
        put(x, 0, 4, 2, 2, 4, 2);
        Check.due("34 they conserve", 1, x.judge(0, 0));
        put(x, 0, 4, 2, 2, 4, 1);
        Check.due("34 they don't", 0, x.judge(0, 0));
        put(x, 0, 3, 3, 4, 4, -1);
        Check.due("34 below 0", 0, x.judge(0, 0));
        put(x, 0, 2, 3, 2, 3, 0);
        Check.due("34 too few", 0, x.judge(0, 0));
        put(x, 0, 7, 7, 3, 3, 3, 3, 0, 7);
        Check.due("34 from a place on", 2, x.judge(0, 2));
        Check.due("34 from the last place on", 0, x.judge(0, 3));
        Check.due("34 ends too early", Check.BEYOND, x.judge(0, 4));
        Check.due("34 below", Check.BEYOND, x.judge(0, -1));
        Check.due("34 far below", Check.BEYOND, x.judge(0, Integer.MIN_VALUE));
        Check.due("34 far behind", Check.BEYOND, x.judge(0, Integer.MAX_VALUE));
        Check.due("34 nothing", Check.NOTHING, x.judge(1, -1));
        Check.due("34 list below", Check.NONE, x.judge(-1, 0));
        Check.due("34 list above", Check.NONE, x.judge(4, 0));
        Check.crowd(x, 1, 5, 2, 1, 1);
        Check.due("34 no best: their town isn't there", 1, x.judge(0, 2));
        x.drivers(1, 0, 1);
        Check.due("34 they want to town 1", 0, x.judge(0, 2));
        put(x, 0, 5, 3, 3, 3, 0);
        Check.due("34 two of them stay there", 1, x.judge(0, 0));
        put(x, 0, 4, 4, 2, 4, 0);
        Check.due("34 and so it is best", 2, x.judge(0, 0));
        x = new TollWays();
        x.list(0, 3);
        Check.due("34 no roads", 2, x.judge(0, 3));
        Check.due("34 no roads, behind", Check.BEYOND, x.judge(0, 4));
        Check.due("34 no roads, below", Check.BEYOND, x.judge(0, -1));
        x.drivers(0, 1, 1);
        Check.due("34 no roads, one driver", 0, x.judge(0, 0));
    }

    private static void judgeGreat() {
        TollWays x = Check.made(3, "0>1=1;1>0=1;0>1=1;0>1=1");
        Check.crowd(x, 0, 1, 2, 1, 1);
        long[][] below = {{-1, 0, 3, 0}, {1, -1, 0, 0}, {3, 0, -1, 0}, {3, 0, 0, -1}};
        for (int r = 0; r < 4; r++) {
            put(x, 0, below[r]);
            Check.due("34 road " + r + " below 0", 0, x.judge(0, 0));
        }
        put(x, 0, 36, 34, 0, 0);
        Check.due("34 in circles", 1, x.judge(0, 0));
        put(x, 0, 37, 35, 0, 0);
        Check.due("34 above 36", Check.OVER, x.judge(0, 0));
        put(x, 0, 38, 35, 0, 0);
        Check.due("34 don't conserve, though above 36", 0, x.judge(0, 0));
        put(x, 0, Long.MAX_VALUE, Long.MAX_VALUE - 2, 0, 0);
        Check.due("34 far above 36", Check.OVER, x.judge(0, 0));
        // Their sum would be 2, if it were a long.
        put(x, 0, Long.MAX_VALUE, 0, Long.MAX_VALUE, 4);
        Check.due("34 sums are without bound", 0, x.judge(0, 0));
        put(x, 0, Long.MIN_VALUE, 0, Long.MAX_VALUE, 3);
        Check.due("34 the least", 0, x.judge(0, 0));
        // 2^63 and 2^63 less 2, if the first were read without its sign.
        put(x, 0, Long.MIN_VALUE, Long.MAX_VALUE - 1, 0, 0);
        Check.due("34 the least, and as many less 2 back", 0, x.judge(0, 0));
        // 2^32 too much, and 2^32 too little.
        put(x, 0, (1L << 32) + 2, 0, 0, 0);
        Check.due("34 a half too much", 0, x.judge(0, 0));
        put(x, 0, 2, 1L << 32, 0, 0);
        Check.due("34 a half too little", 0, x.judge(0, 0));
        put(x, 0, 1L << 32, (1L << 32) - 2, 0, 0);
        Check.due("34 a half carried", Check.OVER, x.judge(0, 0));
        x.drivers(0, 0, 5);
        put(x, 0, 37, 37, 0, 0);
        Check.due("34 above 36, and no best", Check.OVER, x.judge(0, 0));
        put(x, 0, 36, 36, 0, 0);
        Check.due("34 no best", 1, x.judge(0, 0));
    }

    private static void judgeOver() {
        TollWays x = new TollWays();
        x.towns(4);
        x.road(0, 1, 0, BASE, 0, 0, 0);
        x.road(1, 2, 0, BASE, 0, 0, 0);
        x.road(2, 3, 1, 52_605_000_000_000_000L, 100_000_000_000_000L, 0, 0);
        x.road(2, 3, 0, 56_205_000_000_000_000L, 0, 0, 0);
        for (int cls = 0; cls < 3; cls++) {
            Check.crowd(x, cls, 3, 12, 1, 1);
        }
        put(x, 3, 36, 36, 18, 18);
        Check.due("34 best, though free is over", 2, x.judge(3, 0));
        put(x, 3, 36, 36, 17, 19);
        Check.due("34 conserves", 1, x.judge(3, 0));
        put(x, 3, 36, 36, 36, 0);
        Check.due("34 their total is over", Check.OVER, x.judge(3, 0));
        put(x, 3, 36, 36, 36, 1);
        Check.due("34 don't conserve, though over", 0, x.judge(3, 0));
    }

    private static void trays() {
        TollWays x = new TollWays();
        x.road(0, 1, 0, 5, 6, 7, 8);
        x.road(0, 1, 1, 5, 6, 7, 8);
        x.road(0, 1, 2, 5, 6, 7, 8);
        Check.due("35 tray below", Check.NONE, x.tray(-1, 0, 1));
        Check.due("35 tray above", Check.NONE, x.tray(3, 0, 1));
        Check.due("35 kind below", Check.NONE, x.tray(0, -1, 1));
        Check.due("35 kind above", Check.NONE, x.tray(0, 3, 1));
        Check.due("35 NONE ahead of BAD", Check.NONE, x.tray(0, 3, 21));
        Check.due("35 above", Check.BAD, x.tray(0, 0, 21));
        Check.due("35 below", Check.BELOW, x.tray(0, 0, -1));
        Check.due("36 nothing yet", Check.NOTHING, x.lays(0, 0, 0));
        Check.due("37 nothing yet", Check.NO, x.laid(0, 0, 1));
        for (int kind = 0; kind < 3; kind++) {
            Check.due("35 made", 1, x.tray(kind, kind, 20 - kind));
            for (int road = 0; road < 3; road++) {
                Check.due("36 kind " + kind + " road " + road, road >= kind ? 1 : Check.UNLIKE,
                        x.lays(kind, road, road));
            }
            Check.due("36 the last place", 1, x.lays(kind, 19 - kind, 2));
            Check.due("36 behind it", Check.BEYOND, x.lays(kind, 20 - kind, 2));
            Check.due("36 below", Check.BEYOND, x.lays(kind, -1, 2));
            Check.due("36 nothing fits all", 1, x.lays(kind, 0, -1));
        }
        Check.due("36 BEYOND ahead of UNLIKE", Check.BEYOND, x.lays(2, 18, 0));
        Check.due("36 road above", Check.NONE, x.lays(0, 0, 3));
        Check.due("36 road below", Check.NONE, x.lays(0, 0, -2));
        Check.due("36 tray above", Check.NONE, x.lays(3, 0, 0));
        Check.due("36 tray below", Check.NONE, x.lays(-1, 0, 0));
        Check.due("37 sloped", 5 + 36 * 6, x.laid(0, 1, 36));
        Check.due("37 kneed", 5 + 9 * 6 + 7, x.laid(0, 2, 9));
        Check.due("37 plain was taken", Check.NO, x.laid(0, 0, 1));
        Check.due("37 UNLIKE laid nothing", Check.NO, x.laid(1, 0, 1));
        Check.due("37 empty", Check.NO, x.laid(0, 3, 1));
        Check.due("37 x below", Check.NO, x.laid(0, 1, 0));
        Check.due("37 x above", Check.NO, x.laid(0, 1, 37));
        Check.due("37 behind", Check.NO, x.laid(0, 20, 1));
        Check.due("37 below", Check.NO, x.laid(0, -1, 1));
        Check.due("37 tray above", Check.NO, x.laid(3, 0, 1));
        Check.due("37 tray below", Check.NO, x.laid(-1, 0, 1));
        Check.due("35 anew", 1, x.tray(0, 0, 3));
        Check.due("35 all empty", Check.NO, x.laid(0, 1, 1));
        Check.due("35 of none", 1, x.tray(0, 0, 0));
        Check.due("36 no place", Check.BEYOND, x.lays(0, 0, 0));
        x.tray(0, 0, 20);
        Check.due("35 empty again", Check.NO, x.laid(0, 2, 1));
        for (int i = 0; i < 20; i++) {
            x.lays(0, i, 0);
            Check.due("37 plain in place " + i, 5, x.laid(0, i, 36));
        }
        Check.due("38 a whole one", 20, x.like(1, 0));
        x.tray(0, 0, 20);
        for (int i = 0; i < 20; i++) {
            Check.due("35 empty place " + i, Check.NO, x.laid(0, i, 1));
            Check.due("38 place " + i, 5, x.laid(1, i, 1));
        }
    }

    private static void traysKeep() {
        TollWays x = Check.made(2, "0>1=5+6^7:8;0>1=1");
        x.tray(1, 2, 2);
        x.lays(1, 1, 0);
        x.close(0);
        Check.due("4 trays keep", 5 + 6 * 8 + 8, x.laid(1, 1, 8));
        x.towns(4);
        Check.due("2 trays keep", 5 + 6 * 8 + 8, x.laid(1, 1, 8));
        x.image();
        x.lays(1, 1, -1);
        x.undo();
        Check.due("44 trays stay", Check.NO, x.laid(1, 1, 8));
        Check.due("36 NONE ahead of NOTHING", Check.NONE, x.lays(2, 0, 0));
    }

    private static void like() {
        TollWays x = Check.made(2, "0>1=5;0>1=6+1");
        Check.due("38 nothing", Check.NOTHING, x.like(0, 1));
        Check.due("38 nothing itself", Check.NOTHING, x.like(1, 1));
        Check.due("38 below", Check.NONE, x.like(-1, 0));
        Check.due("38 above", Check.NONE, x.like(3, 0));
        Check.due("38 other below", Check.NONE, x.like(0, -1));
        Check.due("38 other above", Check.NONE, x.like(0, 3));
        x.tray(0, 1, 4);
        x.lays(0, 2, 1);
        x.tray(1, 0, 9);
        Check.due("38 its size", 4, x.like(1, 0));
        Check.due("38 what lies there", 7, x.laid(1, 2, 1));
        Check.due("38 the kind too", Check.UNLIKE, x.lays(1, 0, 0));
        Check.due("38 the size too", Check.BEYOND, x.lays(1, 4, 1));
        x.lays(0, 2, -1);
        Check.due("38 a row of its own", 7, x.laid(1, 2, 1));
        x.lays(1, 3, 1);
        Check.due("38 the other's too", Check.NO, x.laid(0, 3, 1));
        Check.due("38 itself", 4, x.like(1, 1));
        Check.due("38 as it was", 7, x.laid(1, 3, 1));
        x.tray(2, 2, 0);
        Check.due("38 of none", 0, x.like(0, 2));
        Check.due("38 nothing changes the tray that was", 4, x.like(0, 1));
    }

    private static void told() {
        TollWays x = Check.made(5, "0>1=1;1>2=1;2>3=1");
        x.toll(0, 1_000_000_000L);
        x.toll(1, 1_000_000_000L);
        x.toll(2, 1_000_000_000L);
        x.drivers(0, 1, 12);
        x.drivers(1, 1, 11);
        x.drivers(2, 1, 12);
        x.drivers(2, 0, 5);
        Check.feed(x, "abc");
        Check.due("39 towns", 5, x.told(0));
        Check.due("39 roads", 3, x.told(1));
        Check.due("39 drivers, those to no town too", 35, x.told(2));
        Check.due("39 bytes", 3, x.told(3));
        Check.due("39 tolls", 3_000_000_000L, x.told(4));
        Check.due("39 below", Check.NO, x.told(-1));
        Check.due("39 above", Check.NO, x.told(5));
    }

    private static void lists() {
        TollWays x = new TollWays();
        Check.due("40 below", Check.NONE, x.list(-1, 1));
        Check.due("40 above", Check.NONE, x.list(4, 1));
        Check.due("40 NONE ahead of BAD", Check.NONE, x.list(4, 25));
        Check.due("40 n above", Check.BAD, x.list(0, 25));
        Check.due("40 n below", Check.BELOW, x.list(0, -1));
        Check.due("41 nothing", Check.NOTHING, x.set(0, 0, 1));
        Check.due("42 nothing", Check.NO, x.get(0, 0));
        for (int l = 0; l < 4; l++) {
            Check.due("40 made", 1, x.list(l, 24));
            Check.due("41 set", 1, x.set(l, 23, Long.MAX_VALUE - l));
            Check.due("41 set the first", 1, x.set(l, 0, -7));
        }
        for (int l = 0; l < 4; l++) {
            Check.due("42 each its own", Long.MAX_VALUE - l, x.get(l, 23));
            Check.due("42 first", -7, x.get(l, 0));
            Check.due("42 others are 0", 0, x.get(l, 11));
        }
        Check.due("41 behind", Check.BEYOND, x.set(0, 24, 1));
        Check.due("41 below", Check.BEYOND, x.set(0, -1, 1));
        Check.due("41 no list", Check.NONE, x.set(4, 0, 1));
        Check.due("41 no list below", Check.NONE, x.set(-1, 0, 1));
        Check.due("42 behind", Check.NO, x.get(0, 24));
        Check.due("42 below", Check.NO, x.get(0, -1));
        Check.due("42 no list", Check.NO, x.get(4, 0));
        Check.due("42 no list below", Check.NO, x.get(-1, 0));
        Check.due("40 anew", 1, x.list(0, 1));
        Check.due("40 all 0", 0, x.get(0, 0));
        Check.due("40 of none", 1, x.list(0, 0));
        Check.due("41 no place", Check.BEYOND, x.set(0, 0, 1));
        Check.due("40 long again", 1, x.list(0, 24));
        Check.due("40 all 0 again", 0, x.get(0, 23));
    }

    private static void image() {
        TollWays x = Check.made(3, "0>1=1+2^3:4;1>2=5");
        x.toll(0, 6);
        Check.crowd(x, 1, 2, 7, 8, 9);
        Check.due("44 none", Check.STATE, x.undo());
        Check.due("43 two", 2, x.image());
        x.toll(0, 60);
        Check.crowd(x, 1, 1, 3, 2, 1);
        x.close(1);
        x.list(0, 2);
        x.set(0, 1, 5);
        x.feed('0');
        Check.due("19 other", 3 * 7, x.total(0));
        Check.due("44 two", 2, x.undo());
        long[] due = {0, 1, 2, 1, 2, 4, 3, 6};
        for (int what = 0; what < 8; what++) {
            Check.due("44 road, what " + what, due[what], x.of(0, what));
        }
        Check.due("44 class to", 2, x.driversOf(1, 0));
        Check.due("44 class many", 7, x.driversOf(1, 1));
        Check.due("44 class time", 8, x.driversOf(1, 2));
        Check.due("44 class money", 9, x.driversOf(1, 3));
        Check.due("44 lists stay", 5, x.get(0, 1));
        Check.due("44 the tape stays", 1, x.told(3));
        Check.due("44 loads are found anew", 7 * (1 + 14 + 16) + 35, x.total(0));
        x.toll(0, 61);
        x.drivers(1, 1, 1);
        x.towns(6);
        Check.due("44 the image stays", 2, x.undo());
        Check.due("44 its toll", 6, x.of(0, 7));
        Check.due("44 its drivers", 7, x.driversOf(1, 1));
        Check.due("44 its towns", 3, x.told(0));
        x.close(0);
        Check.due("43 anew", 1, x.image());
        x.close(0);
        Check.due("44 the newer", 1, x.undo());
        Check.due("44 its road", 5, x.of(0, 3));
        x = new TollWays();
        Check.due("43 none", 0, x.image());
        x.towns(5);
        Check.due("44 back to none", 0, x.undo());
        Check.due("44 two towns", 2, x.told(0));
    }
}
