/** An object of which everything can be seen to stay, behind a call that may change nothing. */
final class Rich {
    private Rich() {
    }

    static TollWays made() {
        TollWays x = Check.made(3, "0>2=77");
        x.toll(0, 8);
        x.drivers(1, 3, 4);
        x.image();
        x.towns(4);
        Check.read(x, "0>1=1+2;1>3=3+4^1:5;0>2=6;2>3=7");
        x.toll(0, 9);
        x.toll(3, 10);
        Check.crowd(x, 0, 3, 3, 2, 1);
        Check.crowd(x, 1, 2, 1, 2, 3);
        Edges.put(x, 1, 5, -6, 7);
        x.list(2, 0);
        x.tray(0, 1, 2);
        x.lays(0, 1, 1);
        Check.feed(x, "0>1=7");
        return x;
    }

    /** What can be asked, the tape's text and the image are as made() left them. */
    static void stays(String what, TollWays x) {
        TollWays fresh = made();
        Check.same(what + ": what is told stays", seen(fresh), seen(x));
        Check.due(what + ": the tape stays", 1, x.roads());
        Check.due(what + ": its road", 7, x.of(4, 3));
        Check.due(what + ": the image stays", 1, x.undo());
        fresh.clear();
        fresh.undo();
        Check.same(what + ": what the image holds stays", seen(fresh), seen(x));
    }

    private static String seen(TollWays x) {
        StringBuilder text = new StringBuilder();
        for (int what = 0; what < 5; what++) {
            tell(text, x.told(what));
        }
        for (int r = 0; r < x.told(1); r++) {
            for (int what = 0; what < 8; what++) {
                tell(text, x.of(r, what));
            }
        }
        for (int cls = 0; cls < 3; cls++) {
            for (int what = 0; what < 4; what++) {
                tell(text, x.driversOf(cls, what));
            }
        }
        tellRows(text, x);
        return text.toString();
    }

    private static void tellRows(StringBuilder text, TollWays x) {
        for (int list = 0; list < 4; list++) {
            tell(text, x.set(list, -1, 0));
            for (int i = 0; i < 4; i++) {
                tell(text, x.get(list, i));
            }
        }
        for (int tray = 0; tray < 3; tray++) {
            tell(text, x.lays(tray, -1, -1));
            for (int i = 0; i < 3; i++) {
                tell(text, x.laid(tray, i, 1));
                tell(text, x.laid(tray, i, 9));
            }
        }
    }

    private static void tell(StringBuilder text, long answer) {
        text.append(answer == Check.NO ? "NO" : Long.toString(answer)).append(' ');
    }
}
