/** Promises 20 to 22: moves, events that are added, and pushes. */
public final class MovesTest {
    private static final Checks checks = new Checks("MovesTest");
    private static final int BAD = CornerFronts.BAD;
    private static final int STATE = CornerFronts.STATE;
    private static final int FULL = CornerFronts.FULL;
    private static final String TEN = "b0b0b0b0b0";
    private static final String TEN_END = "d0d0d0d0d0";

    public static void main(String[] args) {
        swaps();
        swapsThatCanNotBe();
        slides();
        uncurls();
        pulls();
        straightens();
        badMoves();
        adds();
        addLimits();
        birthPushes();
        deathPushes();
        pushLimits();
        checks.finish();
    }

    private static void moved(String text, int kind, int i, String want) {
        CornerFronts x = Checks.with("b0d0", text, text);
        String call = "move(1, " + kind + ", " + i + ") of " + text;
        checks.due(call, x.move(1, kind, i), want.length() / 2);
        checks.dueText(call, x, 1, want);
        checks.dueText("another front", x, 2, text);
    }

    private static void refused(String text, int kind, int i, int want) {
        CornerFronts x = Checks.with(text);
        String call = "move(0, " + kind + ", " + i + ") of " + text;
        checks.due(call, x.move(0, kind, i), want);
        checks.dueText(call, x, 0, text);
    }

    private static void swaps() {
        moved("b0b0d0d0", 0, 0, "b0b2d0d0");
        moved("b0b2d0d0", 0, 0, "b0b0d0d0");
        moved("b0b2x0d0d0", 0, 1, "b0x0b2d0d0");
        moved("b0b0x2d0d0", 0, 1, "b0x0b0d0d0");
        moved("b0b2d0d0", 0, 1, "b0d0b0d0");
        moved("b0b0d2d0", 0, 1, "b0d0b0d0");
        moved("b0d0b0d0", 0, 1, "b0b2d0d0");
        moved("b0b2d2b0d0d0", 0, 2, "b0b2b0d4d0d0");
        moved("b0b0d0x0d0", 0, 2, "b0b0x2d0d0");
        moved("b0b2d2x0d0", 0, 2, "b0b2x0d2d0");
        moved("b0b2d0d0", 0, 2, "b0b2d2d0");
        moved("b0b2d2d0", 0, 2, "b0b2d0d0");
        moved("b0b2x0x2d0d0", 0, 2, "b0b2x2x0d0d0");
        moved("b0b2x2x0d0d0", 0, 2, "b0b2x0x2d0d0");
        moved("b0x0b0d0d0", 0, 1, "b0b0x2d0d0");
        moved("b0x0b2d0d0", 0, 1, "b0b2x0d0d0");
        moved("b0b2x0d2d0", 0, 2, "b0b2d2x0d0");
        moved("b0b2x2d0d0", 0, 2, "b0b2d0x0d0");
        moved("b0b1d1b1d1d0", 0, 2, "b0b1b3d1d1d0");
        moved(TEN + "d0d0" + "b0d0d0d0d0", 0, 6, TEN + "d0b2d0d0d0d0d0");
    }

    private static void swapsThatCanNotBe() {
        refused("b0b1d1d0", 0, 0, STATE);
        refused("b0b1d1d0", 0, 1, STATE);
        refused("b0b1d0d0", 0, 1, STATE);
        refused("b0b0d1d0", 0, 1, STATE);
        refused("b0b1x1d1d0", 0, 1, STATE);
        refused("b0b1x0d1d0", 0, 1, STATE);
        refused("b0b1x2d1d0", 0, 1, STATE);
        refused("b0b2x0x1d0d0", 0, 2, STATE);
        refused("b0b2x1x0d0d0", 0, 2, STATE);
        refused("b0b2x1x1d0d0", 0, 2, STATE);
        refused("b0x0b1d0d0", 0, 1, STATE);
        refused("b0x0d0", 0, 1, STATE);
        refused("b0b2x1d2d0", 0, 2, STATE);
        refused("b0b2x1d0d0", 0, 2, STATE);
        refused("b0b1d1d0", 0, 2, STATE);
        refused("b0d0", 0, 1, STATE);
        refused("b0d0", 0, 0, STATE);
        refused(TEN + "d0b0" + TEN_END, 0, 5, FULL);
        refused(TEN + "d0b8" + TEN_END, 0, 5, FULL);
        refused(TEN + "d4b0" + TEN_END, 0, 5, FULL);
    }

    private static void slides() {
        moved("b0b2x0x1x0d0d0", 1, 2, "b0b2x1x0x1d0d0");
        moved("b0b2x1x0x1d0d0", 1, 2, "b0b2x0x1x0d0d0");
        moved("b0b2x1x2x1d0d0", 1, 2, "b0b2x2x1x2d0d0");
        moved("b0b2x0x1x0x1d0d0", 1, 3, "b0b2x0x0x1x0d0d0");
        refused("b0b2x0x1x2d0d0", 1, 2, STATE);
        refused("b0b2x0x2x0d0d0", 1, 2, STATE);
        refused("b0b2x0x0x0d0d0", 1, 2, STATE);
        refused("b0b2x0x1x0d0d0", 1, 3, STATE);
        refused("b0b1x0d1d0", 1, 1, STATE);
        refused("b0b0x1x0d0d0", 1, 1, STATE);
        refused("b0b2x0x1d0d0", 1, 2, STATE);
        refused("b0b2x0x1x0d0d0", 1, 5, STATE);
        refused("b0b2x0x1x0d0d0", 1, 6, STATE);
    }

    private static void uncurls() {
        moved("b0b1x0d1d0", 2, 1, "b0d0");
        moved("b0b0x1d0d0", 2, 1, "b0d0");
        moved("b0b1x2d1d0", 2, 1, "b0d0");
        moved("b0b2x1d2d0", 2, 1, "b0d0");
        moved("b0b2b2x1d2x1d2d0", 2, 2, "b0b2x1d2d0");
        refused("b0b1x0d0d0", 2, 1, STATE);
        refused("b0b0x1d1d0", 2, 1, STATE);
        refused("b0b1x1d1d0", 2, 1, STATE);
        refused("b0b2x0d2d0", 2, 1, STATE);
        refused("b0b1x0x0d1d0", 2, 1, STATE);
        refused("b0b1x0x1d1d0", 2, 1, STATE);
        refused("b0b1x0d1d0", 2, 0, STATE);
        refused("b0b1x0d1d0", 2, 2, STATE);
        refused("b0b1x0d1d0", 2, 3, STATE);
        refused("b0b1x0d1d0", 2, 4, STATE);
    }

    private static void pulls() {
        moved("b0b0x1x0d0d0", 3, 1, "b0b1d0d0");
        moved("b0b1x0x1d0d0", 3, 1, "b0b0d0d0");
        moved("b0b1x2x1d0d0", 3, 1, "b0b2d0d0");
        moved("b0b2x1x2d0d0", 3, 1, "b0b1d0d0");
        moved("b0b0x0x1d0d0", 3, 2, "b0b0d1d0");
        moved("b0b0x1x0d1d0", 3, 2, "b0b0d0d0");
        moved("b0b0x1x2d1d0", 3, 2, "b0b0d2d0");
        moved("b0b0x2x1d2d0", 3, 2, "b0b0d1d0");
        refused("b0b0x1x1d0d0", 3, 1, STATE);
        refused("b0b0x0x1d1d0", 3, 1, STATE);
        refused("b0b0x1x2d0d0", 3, 1, STATE);
        refused("b0b0x0x1d1d0", 3, 2, STATE);
        refused("b0b0x1x1d1d0", 3, 2, STATE);
        refused("b0b1x0d1d0", 3, 1, STATE);
        refused("b0b2x0x1x0d0d0", 3, 2, STATE);
        refused("b0b0x1x0d0d0", 3, 0, STATE);
        refused("b0b0x0x1d0d0", 3, 4, STATE);
        refused("b0b0x0x1d0d0", 3, 5, STATE);
    }

    private static void straightens() {
        moved("b0b1d0d0", 4, 1, "b0d0");
        moved("b0b0d1d0", 4, 1, "b0d0");
        moved("b0b2d1d0", 4, 1, "b0d0");
        moved("b0b1d2d0", 4, 1, "b0d0");
        refused("b0b1d1d0", 4, 1, STATE);
        refused("b0b2d0d0", 4, 1, STATE);
        refused("b0b0d0d0", 4, 1, STATE);
        refused("b0b1d0d0", 4, 0, STATE);
        refused("b0b1d0d0", 4, 2, STATE);
        refused("b0b1d0d0", 4, 3, STATE);
        refused("b0b1x0d0d0", 4, 1, STATE);
        refused("b0b1x1d0d0", 4, 2, STATE);
        refused("b0d0", 4, 0, STATE);
    }

    private static void badMoves() {
        refused("b0b1d0d0", -1, 1, BAD);
        refused("b0b1d0d0", 5, 1, BAD);
        refused("b0b1d0d0", Integer.MAX_VALUE, 1, BAD);
        refused("b0b1d0d0", 4, 4, BAD);
        refused("b0b1d0d0", 4, -1, BAD);
        refused("b0b1d0d0", 0, Integer.MAX_VALUE, BAD);
        refused("b0b1d0d0", 0, Integer.MIN_VALUE, BAD);
        CornerFronts x = Checks.with("b0b1d0d0");
        checks.due("front 1", x.move(1, 4, 1), BAD);
        checks.due("front -1", x.move(-1, 4, 1), BAD);
    }

    private static void added(String text, int kind, int i, int k, String want) {
        CornerFronts x = Checks.with(text, text);
        String call = "add(0, " + kind + ", " + i + ", " + k + ") of " + text;
        checks.due(call, x.add(0, kind, i, k), want.length() / 2);
        checks.dueText(call, x, 0, want);
        checks.dueText("another front", x, 1, text);
    }

    private static void notAdded(String text, int kind, int i, int k, int want) {
        CornerFronts x = Checks.with(text);
        String call = "add(0, " + kind + ", " + i + ", " + k + ") of " + text;
        checks.due(call, x.add(0, kind, i, k), want);
        checks.dueText(call, x, 0, text);
    }

    private static void adds() {
        added("b0d0", 0, 1, 0, "b0b1x0d1d0");
        added("b0d0", 0, 1, 1, "b0b2x1d2d0");
        added("b0d0", 1, 1, 0, "b0b0x1d0d0");
        added("b0d0", 1, 1, 1, "b0b1x2d1d0");
        added("b0d0", 2, 1, 0, "b0b1d0d0");
        added("b0d0", 2, 1, 1, "b0b2d1d0");
        added("b0d0", 3, 1, 0, "b0b0d1d0");
        added("b0d0", 3, 1, 1, "b0b1d2d0");
        added("b0b1x0d1d0", 2, 3, 3, "b0b1x0b4d3d1d0");
        notAdded("b0d0", 0, 0, 0, BAD);
        notAdded("b0d0", 0, 2, 0, BAD);
        notAdded("b0d0b0d0", 0, 2, 0, BAD);
        notAdded("b0d0", 0, 3, 0, BAD);
        notAdded("b0d0", 0, -1, 0, BAD);
        notAdded("b0d0", 0, Integer.MAX_VALUE, 0, BAD);
        notAdded("b0d0", 0, 1, 2, BAD);
        notAdded("b0d0", 0, 1, -1, BAD);
        notAdded("b0d0", 0, 1, Integer.MAX_VALUE, BAD);
        notAdded("b0d0", 4, 1, 0, BAD);
        notAdded("b0d0", -1, 1, 0, BAD);
        CornerFronts x = Checks.with("b0d0");
        checks.due("front 1", x.add(1, 0, 1, 0), BAD);
        checks.due("front -1", x.add(-1, 0, 1, 0), BAD);
    }

    private static void addLimits() {
        String tail = Checks.times("b0d0", 13);
        added("b0d0" + tail, 2, 1, 0, "b0b1d0d0" + tail);
        added("b0d0" + tail, 3, 1, 1, "b0b1d2d0" + tail);
        notAdded("b0d0" + tail, 0, 1, 0, FULL);
        notAdded("b0d0" + tail, 1, 1, 0, FULL);
        added("b0x0d0" + Checks.times("b0d0", 12), 0, 1, 0, "b0b1x0d1x0d0" + Checks.times("b0d0", 12));
        notAdded("b0d0b0d0" + tail, 2, 1, 0, FULL);
        notAdded("b0d0b0d0" + tail, 2, 1, 2, BAD);
        String twelve = "b0" + Checks.times("x0", 12) + "d0";
        notAdded(twelve, 0, 1, 0, FULL);
        notAdded(twelve, 1, 13, 1, FULL);
        added(twelve, 2, 1, 0, "b0b1d0" + twelve.substring(2));
        String eleven = "b0" + Checks.times("x0", 11) + "d0";
        added(eleven, 0, 1, 0, "b0b1x0d1" + eleven.substring(2));
        for (int kind = 0; kind < 4; kind++) {
            notAdded(TEN + TEN_END, kind, 5, 9, FULL);
            notAdded(TEN + TEN_END, kind, 5, 10, BAD);
        }
        added(TEN + TEN_END, 3, 4, 7, "b0b0b0b0b7d8b0" + TEN_END);
        added(TEN + TEN_END, 0, 6, 0, TEN + "d0b1x0d1d0d0d0d0");
    }

    private static void pushed(String text, int kind, int i, String want) {
        CornerFronts x = Checks.with(text, text);
        String call = "push(0, " + kind + ", " + i + ") of " + text;
        checks.due(call, x.push(0, kind, i), want.length() / 2);
        checks.dueText(call, x, 0, want);
        checks.dueText("another front", x, 1, text);
    }

    private static void notPushed(String text, int kind, int i, int want) {
        CornerFronts x = Checks.with(text);
        String call = "push(0, " + kind + ", " + i + ") of " + text;
        checks.due(call, x.push(0, kind, i), want);
        checks.dueText(call, x, 0, text);
    }

    private static void birthPushes() {
        notPushed("b0d0", 0, 0, STATE);
        notPushed("b0d0", 1, 0, STATE);
        notPushed("b0b0d0d0", 0, 1, STATE);
        pushed("b0b0d0d0", 1, 1, "b0b1x0x1d0d0");
        pushed("b0b1d1d0", 0, 1, "b0b0x1x0d1d0");
        pushed("b0b1d1d0", 1, 1, "b0b2x1x2d1d0");
        pushed("b0b2d0d0", 0, 1, "b0b1x2x1d0d0");
        notPushed("b0b2d0d0", 1, 1, STATE);
    }

    private static void deathPushes() {
        notPushed("b0d0", 0, 1, STATE);
        notPushed("b0d0", 1, 1, STATE);
        notPushed("b0b0d0d0", 0, 2, STATE);
        pushed("b0b0d0d0", 1, 2, "b0b0x1x0d1d0");
        pushed("b0b1d1d0", 0, 2, "b0b1x0x1d0d0");
        pushed("b0b1d1d0", 1, 2, "b0b1x2x1d2d0");
        pushed("b0b0d2d0", 0, 2, "b0b0x1x2d1d0");
        notPushed("b0b0d2d0", 1, 2, STATE);
    }

    private static void pushLimits() {
        notPushed("b0b1x0x1d0d0", 0, 2, STATE);
        notPushed("b0b1x0x1d0d0", 1, 2, STATE);
        notPushed("b0b1d1d0", 2, 1, BAD);
        notPushed("b0b1d1d0", -1, 1, BAD);
        notPushed("b0b1d1d0", 0, 4, BAD);
        notPushed("b0b1d1d0", 0, -1, BAD);
        notPushed("b0b1x0d1d0", 2, 2, BAD);
        String ten = "b0" + Checks.times("x0", 10) + "b1d1d0";
        pushed(ten, 0, 11, "b0" + Checks.times("x0", 10) + "b0x1x0d1d0");
        String eleven = "b0" + Checks.times("x0", 11) + "b1d1d0";
        notPushed(eleven, 0, 12, FULL);
        notPushed(eleven, 1, 13, FULL);
        notPushed(eleven, 0, 0, STATE);
        notPushed(eleven, 0, 1, STATE);
        notPushed(eleven, 0, 99, BAD);
        String tail = Checks.times("b0d0", 12);
        pushed("b0b1d1d0" + tail, 0, 1, "b0b0x1x0d1d0" + tail);
        notPushed("b0x0b1d1d0" + tail, 0, 2, FULL);
        notPushed("b0x0b1d1d0" + tail, 1, 3, FULL);
        notPushed("b0b1d1d0b0d0" + tail, 1, 1, FULL);
        // ten STRANDS are none too many
        pushed(TEN + TEN_END, 1, 4, "b0b0b0b0b1x0x1" + TEN_END);
        pushed(TEN + TEN_END, 1, 5, TEN + "x1x0d1d0d0d0d0");
        CornerFronts x = Checks.with("b0b1d1d0");
        checks.due("front 1", x.push(1, 0, 1), BAD);
        checks.due("front -1", x.push(-1, 0, 1), BAD);
    }
}
