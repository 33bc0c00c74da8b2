/** Counts answers that are not as due; finish() ends the program with 1 if there were any. */
final class Check {
    static final long NO = TollWays.NO;
    static final int NONE = -1, BAD = -2, STATE = -3, FULL = -4, OVER = -6;
    static final int NOTHING = -11, BEYOND = -13, BELOW = -14, UNLIKE = -16;

    private static int wrong = 0;
    private static int asked = 0;

    private Check() {
    }

    static void due(String what, long want, long got) {
        asked++;
        if (want != got) {
            wrong++;
            System.out.println(what + ": answered " + got + ", due is " + want);
        }
    }

    static void that(String what, boolean holds) {
        due(what, 1, holds ? 1 : 0);
    }

    static void same(String what, String want, String got) {
        asked++;
        if (!want.equals(got)) {
            wrong++;
            System.out.println(what + ": told " + got + ", due is " + want);
        }
    }

    static int wrong() {
        return wrong;
    }

    /** Feeds a text and reads it as roads. */
    static int read(TollWays x, String text) {
        feed(x, text);
        return x.roads();
    }

    static void feed(TollWays x, String text) {
        for (int k = 0; k < text.length(); k++) {
            x.feed(text.charAt(k));
        }
    }

    /** Towns and roads told as a text, on a new object. */
    static TollWays made(int towns, String text) {
        TollWays x = new TollWays();
        x.towns(towns);
        if (read(x, text) < 0) {
            wrong++;
            System.out.println("the roads " + text + " have a fault");
        }
        return x;
    }

    static void crowd(TollWays x, int cls, int to, int many, int time, int money) {
        x.drivers(cls, 0, to);
        x.drivers(cls, 1, many);
        x.drivers(cls, 2, time);
        x.drivers(cls, 3, money);
    }

    static void finish() {
        System.out.println(asked + " answers, " + wrong + " not as due");
        if (wrong != 0) {
            System.exit(1);
        }
    }
}
