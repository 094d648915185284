/** Promises 9 to 12 and 23 to 25: fronts kept and dropped, what is told of them, joined, compared, counted. */
public final class FrontsTest {
    private static final Checks checks = new Checks("FrontsTest");
    private static final String TREFOIL = "b0b2x1x1x1d2d0";
    private static final int BAD = CornerFronts.BAD;
    private static final int FULL = CornerFronts.FULL;
    private static final int NONE = CornerFronts.NONE;

    public static void main(String[] args) {
        copies();
        drops();
        events();
        about();
        joins();
        joinLimits();
        unlikes();
        counts();
        checks.finish();
    }

    private static void copies() {
        CornerFronts x = Checks.with(TREFOIL, "b0d0");
        checks.due("copy(2)", x.copy(2), BAD);
        checks.due("copy(-1)", x.copy(-1), BAD);
        checks.due("copy(max)", x.copy(Integer.MAX_VALUE), BAD);
        checks.due("copy(0)", x.copy(0), 2);
        checks.dueText("the copy", x, 2, TREFOIL);
        x.add(2, 2, 1, 0);
        checks.dueText("the first is left", x, 0, TREFOIL);
        x.add(0, 3, 1, 0);
        checks.dueText("the copy has its own", x, 2, "b0b1d0b2x1x1x1d2d0");
        for (int f = 3; f < 8; f++) {
            checks.due("copy", x.copy(1), f);
        }
        checks.due("copy of 8", x.copy(1), FULL);
        checks.due("BAD ahead of FULL", x.copy(8), BAD);
        checks.due("8 fronts", x.count(0), 8);
    }

    private static void drops() {
        CornerFronts x = Checks.with(TREFOIL, "b0d0", "b0x0d0");
        checks.due("drop", x.drop(), 2);
        checks.due("it is gone", x.about(2, 0), BAD);
        checks.dueText("the one before", x, 1, "b0d0");
        checks.due("copy gets the number", x.copy(0), 2);
        checks.dueText("the copy", x, 2, TREFOIL);
        checks.due("drop", x.drop(), 2);
        checks.due("drop", x.drop(), 1);
        checks.due("drop", x.drop(), 0);
        checks.due("drop of none", x.drop(), NONE);
        checks.due("no fronts", x.count(0), 0);
        checks.due("front", Checks.front(x, "b0d0"), 0);
    }

    private static void events() {
        CornerFronts x = Checks.with("b0b1x2d1x0d0");
        int[][] want = {{0, 0, 0}, {0, 1, 2}, {1, 2, 4}, {2, 1, 4}, {1, 0, 2}, {2, 0, 2}};
        for (int i = 0; i < 6; i++) {
            for (int what = 0; what < 3; what++) {
                checks.due("event(0, " + i + ", " + what + ")", x.event(0, i, what), want[i][what]);
            }
            checks.due("what 3", x.event(0, i, 3), BAD);
            checks.due("what -1", x.event(0, i, -1), BAD);
        }
        checks.due("event 6", x.event(0, 6, 0), BAD);
        checks.due("event -1", x.event(0, -1, 0), BAD);
        checks.due("event max", x.event(0, Integer.MAX_VALUE, 0), BAD);
        checks.due("front 1", x.event(1, 0, 0), BAD);
        checks.due("front -1", x.event(-1, 0, 0), BAD);
    }

    private static void about(String text, int... want) {
        CornerFronts x = Checks.with(text);
        for (int what = 0; what < 6; what++) {
            checks.due("about(0, " + what + ") of " + text, x.about(0, what), want[what]);
        }
        checks.due("about 6", x.about(0, 6), BAD);
        checks.due("about -1", x.about(0, -1), BAD);
        checks.due("about of front 1", x.about(1, 0), BAD);
        checks.due("about of front -1", x.about(-1, 0), BAD);
    }

    private static void about() {
        about("b0d0", 2, 0, 1, 1, 2, 0);
        about(TREFOIL, 7, 3, 2, 1, 4, 3);
        about("b0x0d0", 3, 1, 1, 1, 2, 0);
        about("b0b2x1x1d2d0", 6, 2, 2, 2, 4, 0);
        about("b0b1x0x0d1d0", 6, 2, 2, 2, 4, 2);
        about("b0b1b2d2d1d0b0d0", 8, 0, 4, 4, 6, 0);
        about("b0b1x0x1d1d0", 6, 2, 2, 1, 4, 1);
        about("b0b0b0b0b0d0d0d0d0d0", 10, 0, 5, 5, 10, 0);
    }

    private static void joins() {
        CornerFronts x = Checks.with(TREFOIL, "b0d0", "b0x0d0b0d0");
        checks.due("join", x.join(0, 2), 3);
        checks.dueText("joined", x, 3, "b0b2x1x1x1d2x0d0b0d0");
        checks.due("join", x.join(2, 0), 4);
        checks.dueText("joined", x, 4, "b0x0d0b0b2x1x1x1d2d0");
        checks.due("join", x.join(1, 1), 5);
        checks.dueText("joined", x, 5, "b0d0");
        checks.due("join", x.join(0, 0), 6);
        checks.dueText("joined", x, 6, "b0b2x1x1x1d2b2x1x1x1d2d0");
        checks.dueText("f is left", x, 0, TREFOIL);
        checks.due("join(7, 0)", x.join(7, 0), BAD);
        checks.due("join(0, 7)", x.join(0, 7), BAD);
        checks.due("join(-1, 0)", x.join(-1, 0), BAD);
        checks.due("join(0, -1)", x.join(0, -1), BAD);
        checks.due("join", x.join(1, 0), 7);
        checks.dueText("joined", x, 7, TREFOIL);
        checks.due("join of 8", x.join(1, 1), FULL);
        checks.due("BAD ahead of FULL", x.join(8, 0), BAD);
    }

    private static void joinLimits() {
        String sixteen = Checks.times("b0d0", 8);
        CornerFronts x = Checks.with(sixteen, Checks.times("b0d0", 7) + "b0x0d0", "b0" + Checks.times("x0", 6) + "d0",
            "b0" + Checks.times("x0", 7) + "d0");
        checks.due("30 events", x.join(0, 0), 4);
        checks.due("30 events", x.about(4, 0), 30);
        checks.due("31 events", x.join(0, 1), FULL);
        checks.due("31 events", x.join(1, 0), FULL);
        checks.due("12 crosses", x.join(2, 2), 5);
        checks.due("12 crosses", x.about(5, 1), 12);
        checks.due("13 crosses", x.join(2, 3), FULL);
        checks.due("13 crosses", x.join(3, 2), FULL);
        checks.due("fronts", x.count(0), 6);
        checks.dueText("f is left", x, 0, sixteen);
    }

    private static void unlikes() {
        CornerFronts x = Checks.with("b0b0d2d0", "b0b2d2d0", "b0b0x2d2d0", "b0b0d2d0b0d0", "b0b0d2d0");
        checks.due("one front", x.unlike(0, 0), NONE);
        checks.due("like", x.unlike(0, 4), NONE);
        checks.due("number", x.unlike(0, 1), 1);
        checks.due("kind", x.unlike(0, 2), 2);
        checks.due("fewer", x.unlike(0, 3), 4);
        checks.due("fewer", x.unlike(3, 0), 4);
        checks.due("BAD", x.unlike(5, 0), BAD);
        checks.due("BAD", x.unlike(0, 5), BAD);
        checks.due("BAD", x.unlike(-1, 0), BAD);
        checks.due("BAD", x.unlike(0, -1), BAD);
        // a longer row stood there before: what lies behind the end does not count
        CornerFronts y = Checks.with("b0d0", "b0d0b0d0");
        y.drop();
        checks.due("front", Checks.front(y, "b0d0"), 1);
        checks.due("like", y.unlike(0, 1), NONE);
    }

    private static void counts() {
        CornerFronts x = Checks.with("b0d0", "b0d0");
        checks.due("fronts", x.count(0), 2);
        checks.due("cells of nothing", x.count(1), NONE);
        x.sheet(1, 0, 5);
        checks.due("cells of nothing", x.count(1), NONE);
        x.sheet(0, 2, 0);
        checks.due("cells", x.count(1), 0);
        x.sheet(0, 1, 17);
        checks.due("cells", x.count(1), 17);
        checks.due("bytes", x.count(2), 0);
        x.feed(0);
        x.end(3);
        checks.due("bytes", x.count(2), 3);
        checks.due("count(3)", x.count(3), BAD);
        checks.due("count(-1)", x.count(-1), BAD);
        checks.due("count(max)", x.count(Integer.MAX_VALUE), BAD);
    }
}
