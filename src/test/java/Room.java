import java.util.function.ToIntFunction;

/**
 * An object of which all is known: its fronts, its tape, its latest fault and its four
 * sheets. So a test can show that a call that is refused, or only looks, has changed nothing,
 * and one that is done nothing but what is told.
 */
final class Room {
    static final int MOST_FRONTS = 8;
    /** The tape tells another front than the sheets do. */
    static final String TAPE = "b0 b1 x0 d1 d0 ";
    static final String TOLD = "b0b1x0d1d0";
    static final int[] CELLS = {0, 0, 0, 2, 1, 1, 2, 2, 2, 0};
    static final String DRAWN = "b0b2x1d2d0";
    /** Sheets 0, 1, 2 are of the lanes with their numbers; this one is nothing. */
    static final int NOTHING = 3;
    static final int FAULT = 3;

    final CornerFronts x;
    private final Checks checks;
    /** Of the fronts, one after another. */
    private final String[] texts;

    /** The fronts of these texts, and copies of the first one behind them. */
    Room(Checks checks, int copies, String... texts) {
        this.checks = checks;
        this.texts = new String[texts.length + copies];
        for (int f = 0; f < this.texts.length; f++) {
            this.texts[f] = texts[f < texts.length ? f : 0];
        }
        x = Checks.with(texts);
        if (texts.length < MOST_FRONTS) {
            meetFault(x);
        }
        for (int c = 0; c < copies; c++) {
            x.copy(0);
        }
        for (int lane = 0; lane < 3; lane++) {
            x.sheet(lane, lane, CELLS.length);
            for (int i = 0; i < CELLS.length; i++) {
                x.lay(lane, i, CELLS[i]);
            }
        }
        Checks.tape(x, TAPE);
    }

    /** The latest fault becomes the one that is known; the tape is empty before and behind. */
    static void meetFault(CornerFronts x) {
        if (Checks.front(x, "b1") != -11) {
            throw new IllegalStateException("there is no fault to be met");
        }
    }

    /** A room of its own for one call that answers so and leaves all as it was. */
    static void leaves(Checks checks, String what, int want, ToIntFunction<CornerFronts> call, String... texts) {
        new Room(checks, 0, texts).stays(what, want, call);
    }

    /** Likewise with eight fronts, the first one and its copies. */
    static void leavesWithEight(Checks checks, String what, int want, ToIntFunction<CornerFronts> call, String text) {
        new Room(checks, MOST_FRONTS - 1, text).stays(what, want, call);
    }

    /** The fronts are then as these texts say, and all else is as it was. */
    void changes(String what, int want, ToIntFunction<CornerFronts> call, String... textsThen) {
        checks.due(what, call.applyAsInt(x), want);
        same(what, textsThen);
    }

    private void stays(String what, int want, ToIntFunction<CornerFronts> call) {
        changes(what, want, call, texts);
    }

    /** Looks at everything; the room is used up then. */
    private void same(String what, String[] textsThen) {
        int fronts = textsThen.length;
        checks.due(what + ": fronts", x.count(0), fronts);
        checks.due(what + ": cells", x.count(1), CELLS.length);
        checks.due(what + ": bytes", x.count(2), TAPE.length());
        checks.due(what + ": fault", x.fault(), FAULT);
        for (int f = 0; f < fronts; f++) {
            checks.dueText(what + ": front " + f, x, f, textsThen[f]);
        }
        if (fronts == MOST_FRONTS) {
            checks.due(what + ": the latest goes", x.drop(), fronts - 1);
            fronts--;
        }
        sameSheets(what, fronts);
        checks.due(what + ": the tape", x.front(), fronts);
        checks.dueText(what + ": the tape", x, fronts, TOLD);
    }

    private void sameSheets(String what, int fronts) {
        for (int lane = 0; lane < 3; lane++) {
            checks.due(what + ": sheet " + lane, x.draw(lane, lane, 0, CELLS.length / 2), fronts);
            checks.dueText(what + ": sheet " + lane, x, fronts, DRAWN);
            x.drop();
            checks.due(what + ": end of sheet " + lane, x.lay(lane, CELLS.length, 0), -12);
        }
        checks.due(what + ": sheet of nothing", x.lay(NOTHING, 0, 0), -11);
    }
}
