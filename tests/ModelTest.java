import java.lang.reflect.Method;
import java.util.ArrayList;
import java.util.Arrays;
import java.util.List;
import java.util.Random;

/** Runs of calls drawn by a fixed seed: the class and the model must answer alike. */
public final class ModelTest {
    private static final int CALLS = 512;
    private static final String[] CHANGES = {"towns", "road", "road", "road", "road", "road",
        "close", "toll", "toll", "drivers", "drivers", "drivers", "roads", "fix", "free", "lay",
        "tray", "lays", "lays", "like", "list", "set", "set", "image", "undo", "feed", "clear"};
    private static final String[] QUESTIONS = {"of", "cost", "driversOf", "ways", "way", "is",
        "load", "on", "steps", "total", "price", "mean", "shown", "taken", "busy", "best", "worse",
        "without", "paradox", "paradoxes", "adding", "judge", "laid", "told", "get"};

    private final Random random;
    private final boolean huge;
    private TollWays x = new TollWays();
    private Model model = new Model();
    private final List<String> calls = new ArrayList<>();
    private boolean failed = false;
    private int steps = 0;

    private ModelTest(long seed, boolean huge) {
        this.random = new Random(seed);
        this.huge = huge;
    }

    public static void main(String[] args) throws Exception {
        int runs = args.length > 0 ? Integer.parseInt(args[0]) : 300;
        long seed = args.length > 1 ? Long.parseLong(args[1]) : 1;
        int triedAll = 0;
        int mended = 0;
        int steps = 0;
        int wrong = 0;
        for (int run = 0; run < runs; run++) {
            ModelTest test = new ModelTest(seed * 1000003 + run, run % 4 == 3);
            test.run();
            triedAll += test.model.triedAll;
            mended += test.model.mended;
            steps = Math.max(steps, test.steps);
            wrong += test.failed ? 1 : 0;
        }
        ModelTest stepping = new ModelTest(seed, false);
        stepping.runMostSteps();
        wrong += stepping.failed ? 1 : 0;
        System.out.println("most steps " + Math.max(steps, stepping.steps) 
                + ", best by trying " + triedAll + ", by mending " + mended);
        Check.due("runs that differ", 0, wrong);
        Check.that("both ways to the best were used", runs < 100 || triedAll > 0 && mended > 0);
        Check.finish();
    }

    private void run() throws Exception {
        beginRich();
        while (calls.size() < CALLS && !failed) {
            if (random.nextInt(4) == 0) {
                draw(CHANGES[random.nextInt(CHANGES.length)]);
            } else {
                draw(QUESTIONS[random.nextInt(QUESTIONS.length)]);
            }
        }
    }

    /** The net that is cut off behind 400 steps. */
    private void runMostSteps() throws Exception {
        ask("towns", 4);
        for (long[] r : WaysTest.MOST_STEPS) {
            ask("road", r[0], r[1], r[2], r[3], r[4], r[5], r[6]);
            ask("toll", model.told(1) - 1, r[7]);
        }
        int[][] crowds = {{1, 12, 8, 1}, {1, 12, 2, 9}, {3, 12, 1, 9}};
        for (int cls = 0; cls < 3; cls++) {
            for (int what = 0; what < 4; what++) {
                ask("drivers", cls, what, crowds[cls][what]);
            }
        }
        for (int mode = 0; mode < 3; mode++) {
            ask("steps", mode);
            ask("paradoxes", mode);
            for (int r = 0; r < 12; r++) {
                ask("load", mode, r);
                ask("without", mode, r);
            }
            for (int cls = 0; cls < 3; cls++) {
                ask("mean", mode, cls, 0);
                ask("shown", mode, cls);
            }
        }
        ask("best");
    }

    /** Most runs begin with roads and drivers, so that there is something to ask. */
    private void beginRich() throws Exception {
        if (random.nextInt(10) == 0) {
            return;
        }
        ask("towns", 2 + random.nextInt(5));
        int many = 3 + random.nextInt(10);
        for (int k = 0; k < many; k++) {
            draw("road");
        }
        for (int c = 0; c < 3; c++) {
            if (random.nextInt(3) > 0) {
                ask("drivers", c, 0, 1 + random.nextInt((int) model.told(0) - 1));
                ask("drivers", c, 1, random.nextInt(13));
                ask("drivers", c, 2, 1 + random.nextInt(9));
                ask("drivers", c, 3, random.nextInt(10));
            }
        }
    }

    private void draw(String name) throws Exception {
        switch (name) {
            case "towns" -> drawTowns();
            case "road" -> ask("road", town(), town(), near(3), amount(100_000_000_000_000_000L),
                    amount(100_000_000_000_000L), amount(100_000_000_000_000L), knee());
            case "toll" -> ask("toll", aRoad(), amount(1_000_000_000L));
            case "drivers" -> drawDrivers();
            case "roads" -> drawText();
            case "feed" -> ask("feed", random.nextInt(3) == 0 ? random.nextInt(140) - 5 : 48);
            case "adding" -> ask("adding", near(3), town(), town(),
                    amount(100_000_000_000_000_000L), amount(100_000_000_000_000L));
            case "set" -> ask("set", near(4), near(24), told());
            case "tray" -> ask("tray", near(3), near(3), random.nextInt(25) - 2);
            case "list" -> ask("list", near(4), random.nextInt(3) == 0 ? random.nextInt(30) - 3 : 24);
            case "lay", "judge" -> drawLaid(name);
            case "of" -> ask("of", aRoad(), near(8));
            case "cost" -> ask("cost", aRoad(), random.nextInt(40), near(2));
            case "close" -> ask("close", aRoad());
            case "driversOf" -> ask("driversOf", near(3), near(4));
            case "way" -> ask("way", near(3), aWay(), random.nextInt(8) - 2);
            case "load", "without", "paradox" -> ask(name, near(3), aRoad());
            case "on" -> ask("on", near(3), near(3), aWay());
            case "price" -> ask("price", near(3), near(3), aWay(), near(2));
            case "mean" -> ask("mean", near(3), near(3), near(2));
            case "shown" -> ask("shown", near(3), near(3));
            case "busy" -> ask("busy", near(3), aRoad());
            case "worse" -> ask("worse", near(3), near(2));
            case "lays" -> ask("lays", near(3), near(20), aRoad());
            case "laid" -> ask("laid", near(3), near(20), random.nextInt(40));
            case "like" -> ask("like", near(3), near(3));
            case "told" -> ask("told", near(5));
            case "get" -> ask("get", near(4), near(24));
            case "ways", "is", "steps", "total", "taken", "paradoxes" -> ask(name, near(3));
            default -> ask(name);
        }
    }

    /** Towns take all roads away, so they are drawn seldom and roads come behind them. */
    private void drawTowns() throws Exception {
        if (random.nextInt(6) == 0) {
            ask("towns", random.nextInt(8));
            for (int k = 0; k < 9; k++) {
                draw("road");
            }
        }
    }

    private void drawDrivers() throws Exception {
        int what = near(4);
        int v = what == 0 && random.nextInt(4) > 0
                ? 1 + random.nextInt((int) model.told(0) - 1) : random.nextInt(15) - 1;
        ask("drivers", near(3), what, v);
    }

    /** Loads of some mode are laid, now and then disturbed along roads, and judged. */
    private void drawLaid(String name) throws Exception {
        int list = near(4);
        int i = random.nextInt(5) - 1;
        ask("list", list, random.nextInt(6) == 0 ? random.nextInt(25) : 24);
        ask("lay", list, i, near(3));
        if (name.equals("lay")) {
            ask("lay", near(4), random.nextInt(4) == 0 ? Integer.MAX_VALUE : random.nextInt(26), near(3));
            return;
        }
        ask("judge", list, i);
        int more = random.nextInt(4);
        for (int k = 0; k < more; k++) {
            int place = i + Math.max(0, aRoad());
            long v = model.get(list, place);
            ask("set", list, place, random.nextBoolean() ? v + 1 : v - 1);
            ask("judge", list, i);
        }
    }

    private void drawText() throws Exception {
        StringBuilder text = new StringBuilder();
        int parts = 1 + random.nextInt(3);
        for (int k = 0; k < parts; k++) {
            text.append(k == 0 ? "" : ";").append(Math.max(0, town())).append('>');
            text.append(Math.max(0, town())).append('=').append(random.nextInt(200));
            if (random.nextInt(3) > 0) {
                text.append('+').append(random.nextInt(50));
                if (random.nextInt(2) > 0) {
                    text.append('^').append(random.nextInt(40)).append(':');
                    text.append(random.nextInt(1_000_000));
                }
            }
        }
        if (random.nextInt(2) == 0) {
            spoil(text);
        }
        for (int k = 0; k < text.length(); k++) {
            ask("feed", (int) text.charAt(k));
        }
        ask("roads");
    }

    private void spoil(StringBuilder text) {
        int place = random.nextInt(text.length());
        char letter = "0123456789>=+^:; ".charAt(random.nextInt(17));
        switch (random.nextInt(4)) {
            case 0 -> text.setLength(place);
            case 1 -> text.insert(place, letter);
            case 2 -> text.setCharAt(place, letter);
            default -> text.insert(place, "00000");
        }
    }

    /** Mostly below the bound, seldom one that is not there. */
    private int near(int bound) {
        int odd = random.nextInt(40);
        return odd == 0 ? -1 : odd == 1 ? bound : odd == 2 ? random.nextInt() : random.nextInt(bound);
    }

    private int town() {
        return near((int) model.told(0));
    }

    private int aRoad() {
        return near(Math.max(1, (int) model.told(1)));
    }

    private int aWay() {
        return near(Math.max(1, model.ways(random.nextInt(3))));
    }

    private int knee() {
        return random.nextInt(20) == 0 ? 37 : random.nextInt(2) == 0 ? random.nextInt(37)
                : random.nextInt(6);
    }

    private long amount(long most) {
        int odd = random.nextInt(60);
        if (odd < 3) {
            return odd == 0 ? -1 : odd == 1 ? most + 1 : random.nextLong();
        }
        if (huge && random.nextInt(3) > 0) {
            return most - random.nextInt(3);
        }
        int[] scales = {1, 4, 20, 100, 1000};
        return random.nextInt(scales[random.nextInt(scales.length)]);
    }

    private long told() {
        return random.nextInt(5) == 0 ? random.nextLong() : random.nextInt(40) - 1;
    }

    private void ask(String name, Object... args) throws Exception {
        if (failed || calls.size() >= CALLS) {
            return;
        }
        Method mine = methodOf(TollWays.class, name);
        Method other = methodOf(Model.class, name);
        Class<?>[] types = mine.getParameterTypes();
        Object[] fit = new Object[args.length];
        for (int k = 0; k < args.length; k++) {
            Number v = (Number) args[k];
            fit[k] = types[k] == long.class ? (Object) v.longValue() : (Object) v.intValue();
        }
        long got = ((Number) mine.invoke(x, fit)).longValue();
        long want = ((Number) other.invoke(model, fit)).longValue();
        String told = Arrays.toString(fit);
        calls.add(name + "(" + told.substring(1, told.length() - 1) + ") = " + got);
        if (name.equals("steps")) {
            steps = Math.max(steps, (int) got);
        }
        if (got != want) {
            failed = true;
            System.out.println("---- due is " + want + " for the last of");
            calls.forEach(System.out::println);
        }
    }

    private static Method methodOf(Class<?> c, String name) {
        for (Method m : c.getMethods()) {
            if (m.getName().equals(name)) {
                return m;
            }
        }
        throw new IllegalArgumentException(name);
    }
}
