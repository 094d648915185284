import java.util.function.ToIntFunction;

/** The boundary sentences of promises 20 to 25, one test each. */
public final class MoveEdgesTest {
    private static final Checks checks = new Checks("MoveEdgesTest");
    private static final int BAD = CornerFronts.BAD;
    private static final int STATE = CornerFronts.STATE;
    private static final int FULL = CornerFronts.FULL;
    private static final int NONE = CornerFronts.NONE;
    private static final int MIN = Integer.MIN_VALUE;
    private static final int MAX = Integer.MAX_VALUE;
    private static final int SWAP = 0, SLIDE = 1, UNCURL = 2, PULL = 3, STRAIGHTEN = 4;
    private static final int[] NO_FRONTS = {MIN, -1, 2, 7, 8, MAX};
    private static final String ZIGZAG = "b0b1d0d0";
    private static final String TEN = "b0".repeat(5);
    private static final String TEN_END = "d0".repeat(5);
    private static final String TWELVE_CROSSES = "x0".repeat(12);

    public static void main(String[] args) {
        moveOfBadNumbers();
        moveAtTheLastEvents();
        swapOfTwoBirths();
        swapOfBirthAndCross();
        swapOfBirthAndDeath();
        swapOfTwoCrosses();
        swapOfCrossAndDeath();
        swapOfTwoDeaths();
        swapOfDeathAndBirth();
        swapWith12StrandsThen();
        slideWhereItCanBe();
        slideWhereItCanNotBe();
        uncurlWhereItCanBe();
        uncurlWhereItCanNotBe();
        pullWhereItCanBe();
        pullWhereItCanNotBe();
        straightenWhereItCanBe();
        straightenWhereItCanNotBe();
        movesOfTheLargest();
        movesBehindOneAnother();
        addOfBadNumbers();
        addWhereNoStrandIs();
        addUpTo30Events();
        addUpTo12Crosses();
        addUpTo10Strands();
        pushOfBadNumbers();
        pushOfACross();
        pushAtBothEdges();
        pushUpTo30Events();
        pushUpTo12Crosses();
        joinOfNoFront();
        joinWhenFull();
        joinUpTo30Events();
        joinUpTo12Crosses();
        unlikeOfNoFront();
        unlikeOfOneFront();
        unlikeWhereOneEnds();
        countOfNoSuchNumber();
        countOfTheLargest();
        checks.finish();
    }

    private static void refused(String what, int want, ToIntFunction<CornerFronts> call, String text) {
        Room.leaves(checks, what + " of " + text, want, call, text, "b0d0");
    }

    private static void done(String what, String want, ToIntFunction<CornerFronts> call, String text) {
        CornerFronts x = Checks.with(text, text);
        checks.due(what + " of " + text, call.applyAsInt(x), want.length() / 2);
        checks.dueText(what + " of " + text, x, 0, want);
        checks.dueText(what + " of " + text + ": another front", x, 1, text);
        checks.due(what + " of " + text + ": fronts", x.count(0), 2);
    }

    private static void moved(String text, int kind, int i, String want) {
        done("20 move(0, " + kind + ", " + i + ")", want, x -> x.move(0, kind, i), text);
    }

    private static void notMoved(String text, int kind, int i, int want) {
        refused("20 move(0, " + kind + ", " + i + ")", want, x -> x.move(0, kind, i), text);
    }

    // ---- 20

    private static void moveOfBadNumbers() {
        for (int f : NO_FRONTS) {
            refused("20 front " + f, BAD, x -> x.move(f, STRAIGHTEN, 1), ZIGZAG);
        }
        for (int kind : new int[] {MIN, -1, 5, MAX}) {
            notMoved(ZIGZAG, kind, 1, BAD);
            notMoved(ZIGZAG, kind, 9, BAD);
        }
        for (int i : new int[] {MIN, -1, 4, 29, 30, MAX}) {
            for (int kind = 0; kind < 5; kind++) {
                notMoved(ZIGZAG, kind, i, BAD);
            }
        }
    }

    /** The EVENTS behind it are not there: so it can not be there. */
    private static void moveAtTheLastEvents() {
        for (int kind = 0; kind < 5; kind++) {
            notMoved("b0d0", kind, 1, STATE);
            notMoved("b0d0", kind, 0, STATE);
            notMoved("b0d0".repeat(15), kind, 29, STATE);
            notMoved("b0x0d0", kind, 2, STATE);
            notMoved("b0x0d0", kind, 1, STATE);
            notMoved("b0x0x0d0", kind, 2, STATE);
        }
        for (int kind = 1; kind < 5; kind++) {
            notMoved("b0d0".repeat(15), kind, 28, STATE);
        }
        // the last two can be swapped
        moved("b0b2d2d0", SWAP, 2, "b0b2d0d0");
        moved("b0b2d0d0", SWAP, 2, "b0b2d2d0");
        notMoved("b0b2d1d0", SWAP, 2, STATE);
    }

    /** Behind three BIRTHS come e (number 2) and g, then as many DEATHS as there are to be. */
    private static void swapped(String e, String g, String want) {
        String text = closed("b0b0b0" + e + g);
        if (want == null) {
            notMoved(text, SWAP, 3, STATE);
        } else {
            moved(text, SWAP, 3, closed("b0b0b0" + want));
        }
    }

    private static String closed(String text) {
        int strands = 0;
        for (int at = 0; at < text.length(); at += 2) {
            strands += 2 * (1 - "bxd".indexOf(text.charAt(at)));
        }
        return text + "d0".repeat(strands / 2);
    }

    private static void swapOfTwoBirths() {
        swapped("b2", "b8", "b6b2");
        swapped("b2", "b5", "b3b2");
        swapped("b2", "b4", "b2b2");
        swapped("b2", "b3", null);
        swapped("b2", "b2", "b2b4");
        swapped("b2", "b1", "b1b4");
        swapped("b2", "b0", "b0b4");
    }

    private static void swapOfBirthAndCross() {
        swapped("b2", "x6", "x4b2");
        swapped("b2", "x4", "x2b2");
        swapped("b2", "x3", null);
        swapped("b2", "x2", null);
        swapped("b2", "x1", null);
        swapped("b2", "x0", "x0b2");
        swapped("x2", "b6", "b6x2");
        swapped("x2", "b4", "b4x2");
        swapped("x2", "b3", null);
        swapped("x2", "b2", "b2x4");
        swapped("x2", "b0", "b0x4");
    }

    private static void swapOfBirthAndDeath() {
        swapped("b2", "d6", "d4b2");
        swapped("b2", "d4", "d2b2");
        swapped("b2", "d3", null);
        swapped("b2", "d2", null);
        swapped("b2", "d1", null);
        swapped("b2", "d0", "d0b0");
    }

    private static void swapOfTwoCrosses() {
        swapped("x2", "x4", "x4x2");
        swapped("x2", "x3", null);
        swapped("x2", "x2", null);
        swapped("x2", "x1", null);
        swapped("x2", "x0", "x0x2");
    }

    private static void swapOfCrossAndDeath() {
        swapped("x2", "d4", "d4x2");
        swapped("x2", "d3", null);
        swapped("x2", "d2", null);
        swapped("x2", "d1", null);
        swapped("x2", "d0", "d0x0");
        swapped("d2", "x2", "x4d2");
        swapped("d2", "x1", null);
        swapped("d2", "x0", "x0d2");
    }

    private static void swapOfTwoDeaths() {
        swapped("d2", "d2", "d4d2");
        swapped("d2", "d1", null);
        swapped("d2", "d0", "d0d0");
    }

    /** Both fit where m is k: the first of them counts. */
    private static void swapOfDeathAndBirth() {
        swapped("d2", "b4", "b6d2");
        swapped("d2", "b3", "b5d2");
        swapped("d2", "b2", "b4d2");
        swapped("d2", "b1", "b1d4");
        swapped("d2", "b0", "b0d4");
    }

    private static void swapWith12StrandsThen() {
        for (int k = 0; k <= 8; k++) {
            for (int m = 0; m <= 8; m++) {
                notMoved(TEN + "d" + k + "b" + m + TEN_END, SWAP, 5, FULL);
            }
        }
        // with ten then, and where it can not be
        moved(TEN + "d4d4b0d0d0d0d0", SWAP, 6, TEN + "d4b0d6d0d0d0d0");
        moved("b0b0b0b0d0b0d0d0d0d0", SWAP, 4, "b0b0b0b0b2d0d0d0d0d0");
        moved(TEN + "x0d8d0d0d0d0", SWAP, 5, TEN + "d8x0d0d0d0d0");
        notMoved(TEN + "x0d1d0d0d0d0", SWAP, 5, STATE);
        moved(TEN + TEN_END, SWAP, 3, "b0b0b0b0b2" + TEN_END);
        notMoved(TEN + TEN_END, SWAP, 4, STATE);
    }

    private static void slideWhereItCanBe() {
        moved("b0b2x0x1x0d0d0", SLIDE, 2, "b0b2x1x0x1d0d0");
        moved("b0b2x1x0x1d0d0", SLIDE, 2, "b0b2x0x1x0d0d0");
        moved("b0b2x1x2x1d0d0", SLIDE, 2, "b0b2x2x1x2d0d0");
        moved("b0b2x2x1x2d0d0", SLIDE, 2, "b0b2x1x2x1d0d0");
        moved(TEN + "x7x8x7" + TEN_END, SLIDE, 5, TEN + "x8x7x8" + TEN_END);
    }

    private static void slideWhereItCanNotBe() {
        notMoved("b0b2x0x0x0d0d0", SLIDE, 2, STATE);
        notMoved("b0b2x0x2x0d0d0", SLIDE, 2, STATE);
        notMoved("b0b2x0x1x1d0d0", SLIDE, 2, STATE);
        notMoved("b0b2x0x1x2d0d0", SLIDE, 2, STATE);
        notMoved("b0b2x1x0x0d0d0", SLIDE, 2, STATE);
        notMoved("b0b2x0x1x0d0d0", SLIDE, 1, STATE);
        notMoved("b0b2x0x1x0d0d0", SLIDE, 3, STATE);
        notMoved("b0b2x0x1d0d0", SLIDE, 2, STATE);
        notMoved("b0b1x0x1d0d0", SLIDE, 1, STATE);
        notMoved("b0b2x0d1x0d0", SLIDE, 2, STATE);
        notMoved("b0x0b1x0d0d0", SLIDE, 1, STATE);
    }

    private static void uncurlWhereItCanBe() {
        for (int k = 0; k < 2; k++) {
            moved("b0b" + (k + 1) + "x" + k + "d" + (k + 1) + "d0", UNCURL, 1, "b0d0");
            moved("b0b" + k + "x" + (k + 1) + "d" + k + "d0", UNCURL, 1, "b0d0");
        }
        moved("b0b0b0b0b8x7d8d0d0d0d0", UNCURL, 4, "b0b0b0b0d0d0d0d0");
        moved("b0b0b0b0b7x8d7d0d0d0d0", UNCURL, 4, "b0b0b0b0d0d0d0d0");
    }

    private static void uncurlWhereItCanNotBe() {
        notMoved("b0b1x0d0d0", UNCURL, 1, STATE);
        notMoved("b0b1x0d2d0", UNCURL, 1, STATE);
        notMoved("b0b1x1d1d0", UNCURL, 1, STATE);
        notMoved("b0b0x2d0d0", UNCURL, 1, STATE);
        notMoved("b0b2x0d2d0", UNCURL, 1, STATE);
        notMoved("b0b1x0d1d0", UNCURL, 0, STATE);
        notMoved("b0b1x0d1d0", UNCURL, 2, STATE);
        notMoved("b0b1x0x1d0d0", UNCURL, 1, STATE);
        notMoved("b0b1d0d0", UNCURL, 1, STATE);
        notMoved("b0x0d0", UNCURL, 0, STATE);
    }

    private static void pullWhereItCanBe() {
        for (int k = 0; k < 2; k++) {
            int up = k + 1;
            moved("b0b" + k + "x" + up + "x" + k + "d0d0", PULL, 1, "b0b" + up + "d0d0");
            moved("b0b" + up + "x" + k + "x" + up + "d0d0", PULL, 1, "b0b" + k + "d0d0");
            moved("b0b0x" + k + "x" + up + "d" + k + "d0", PULL, 2, "b0b0d" + up + "d0");
            moved("b0b0x" + up + "x" + k + "d" + up + "d0", PULL, 2, "b0b0d" + k + "d0");
        }
    }

    private static void pullWhereItCanNotBe() {
        notMoved("b0b0x1x1d0d0", PULL, 1, STATE);
        notMoved("b0b0x0x0d0d0", PULL, 1, STATE);
        notMoved("b0b0x2x0d0d0", PULL, 1, STATE);
        notMoved("b0b1x0x0d0d0", PULL, 1, STATE);
        notMoved("b0b0x0x1d1d0", PULL, 2, STATE);
        notMoved("b0b0x1x0d0d0", PULL, 2, STATE);
        notMoved("b0b0x0x2d0d0", PULL, 2, STATE);
        notMoved("b0b0x1x0d0d0", PULL, 0, STATE);
        notMoved("b0b0x0x1d0d0", PULL, 3, STATE);
        // a curl and a slide are no pull
        notMoved("b0b1x0d1d0", PULL, 1, STATE);
        notMoved("b0b2x0x1x0d0d0", PULL, 2, STATE);
    }

    private static void straightenWhereItCanBe() {
        for (int k = 0; k < 2; k++) {
            moved("b0b" + (k + 1) + "d" + k + "d0", STRAIGHTEN, 1, "b0d0");
            moved("b0b" + k + "d" + (k + 1) + "d0", STRAIGHTEN, 1, "b0d0");
        }
        moved("b0b0b0b0b8d7d0d0d0d0", STRAIGHTEN, 4, "b0b0b0b0d0d0d0d0");
        moved("b0b0b0b0b7d8d0d0d0d0", STRAIGHTEN, 4, "b0b0b0b0d0d0d0d0");
    }

    private static void straightenWhereItCanNotBe() {
        notMoved("b0b0d0d0", STRAIGHTEN, 1, STATE);
        notMoved("b0b1d1d0", STRAIGHTEN, 1, STATE);
        notMoved("b0b0d2d0", STRAIGHTEN, 1, STATE);
        notMoved("b0b2d0d0", STRAIGHTEN, 1, STATE);
        notMoved(ZIGZAG, STRAIGHTEN, 0, STATE);
        notMoved(ZIGZAG, STRAIGHTEN, 2, STATE);
        notMoved("b0b1x0d0d0", STRAIGHTEN, 1, STATE);
        notMoved("b0b1x1d0d0", STRAIGHTEN, 2, STATE);
        notMoved("b0b0x0x1d0d0", STRAIGHTEN, 2, STATE);
    }

    /** No kind makes EVENTS or CROSSES more, so all are done where there are as many as can be. */
    private static void movesOfTheLargest() {
        String rings = "b0d0".repeat(13);
        moved("b0b1d0d0" + rings, STRAIGHTEN, 1, "b0d0" + rings);
        moved(rings + "b0b1d0d0", STRAIGHTEN, 27, rings + "b0d0");
        moved(rings + "b0b0d0d0", SWAP, 26, rings + "b0b2d0d0");
        moved("b0d0".repeat(15), SWAP, 27, "b0d0".repeat(13) + "b0b2d0d0");
        moved("b0b2" + "x0x1x0".repeat(4) + "d0d0", SLIDE, 11, "b0b2" + "x0x1x0".repeat(3) + "x1x0x1d0d0");
        moved("b0b1" + "x0".repeat(10) + "x0x1d0d0", PULL, 12, "b0b1" + "x0".repeat(10) + "d1d0");
    }

    /** Nothing of a move, done or refused, is left for the next one. */
    private static void movesBehindOneAnother() {
        CornerFronts x = Checks.with("b0b1d1d0");
        steps(x, "20 a pull that can not be", x.move(0, PULL, 1), STATE, "b0b1d1d0");
        steps(x, "22 a push that can not be", x.push(0, 0, 0), STATE, "b0b1d1d0");
        steps(x, "21 add", x.add(0, 2, 1, 1), 6, "b0b2d1b1d1d0");
        steps(x, "21 add", x.add(0, 0, 1, 0), 9, "b0b1x0d1b2d1b1d1d0");
        steps(x, "22 a push that can not be", x.push(0, 1, 8), STATE, "b0b1x0d1b2d1b1d1d0");
        steps(x, "20 uncurl", x.move(0, UNCURL, 1), 6, "b0b2d1b1d1d0");
        steps(x, "22 push", x.push(0, 0, 3), 8, "b0b2d1b0x1x0d1d0");
        steps(x, "20 straighten", x.move(0, STRAIGHTEN, 1), 6, "b0b0x1x0d1d0");
        steps(x, "20 a slide that can not be", x.move(0, SLIDE, 2), STATE, "b0b0x1x0d1d0");
        steps(x, "20 pull", x.move(0, PULL, 1), 4, "b0b1d1d0");
        steps(x, "20 a swap that can not be", x.move(0, SWAP, 1), STATE, "b0b1d1d0");
        steps(x, "21 add", x.add(0, 3, 3, 0), 6, "b0b1d1b0d1d0");
    }

    private static void steps(CornerFronts x, String what, int got, int want, String text) {
        checks.due(what + " to " + text, got, want);
        checks.dueText(what, x, 0, text);
    }

    // ---- 21

    private static void added(String text, int kind, int i, int k, String want) {
        done("21 add(0, " + kind + ", " + i + ", " + k + ")", want, x -> x.add(0, kind, i, k), text);
    }

    private static void notAdded(String text, int kind, int i, int k, int want) {
        refused("21 add(0, " + kind + ", " + i + ", " + k + ")", want, x -> x.add(0, kind, i, k), text);
    }

    private static void addOfBadNumbers() {
        for (int f : NO_FRONTS) {
            refused("21 front " + f, BAD, x -> x.add(f, 0, 1, 0), "b0d0");
        }
        for (int kind : new int[] {MIN, -1, 4, MAX}) {
            notAdded("b0d0", kind, 1, 0, BAD);
            // ahead of FULL
            notAdded("b0d0".repeat(15), kind, 1, 0, BAD);
            notAdded("b0" + TWELVE_CROSSES + "d0", kind, 1, 0, BAD);
            notAdded(TEN + TEN_END, kind, 5, 0, BAD);
        }
        for (int kind = 0; kind < 4; kind++) {
            for (int i : new int[] {MIN, -1, 3, 30, 31, MAX}) {
                notAdded("b0d0", kind, i, 0, BAD);
            }
            for (int k : new int[] {MIN, -1, 2, 9, 10, MAX}) {
                notAdded("b0d0", kind, 1, k, BAD);
            }
        }
        added("b0d0", 0, 1, 0, "b0b1x0d1d0");
        added("b0d0", 1, 1, 0, "b0b0x1d0d0");
        added("b0d0", 2, 1, 0, "b0b1d0d0");
        added("b0d0", 3, 1, 0, "b0b0d1d0");
        added("b0d0", 0, 1, 1, "b0b2x1d2d0");
        added("b0d0", 1, 1, 1, "b0b1x2d1d0");
        added("b0d0", 2, 1, 1, "b0b2d1d0");
        added("b0d0", 3, 1, 1, "b0b1d2d0");
    }

    /** No STRAND is there ahead of the first EVENT, behind all, and between two that are apart. */
    private static void addWhereNoStrandIs() {
        for (int kind = 0; kind < 4; kind++) {
            for (int k = -1; k < 3; k++) {
                notAdded("b0d0", kind, 0, k, BAD);
                notAdded("b0d0", kind, 2, k, BAD);
                notAdded("b0d0b0d0", kind, 2, k, BAD);
            }
            // ahead of what would be FULL
            notAdded("b0d0".repeat(15), kind, 0, 0, BAD);
            notAdded("b0d0".repeat(15), kind, 30, 0, BAD);
            notAdded("b0d0".repeat(15), kind, 1, 2, BAD);
            notAdded(TEN + TEN_END, kind, 5, 10, BAD);
            notAdded("b0" + TWELVE_CROSSES + "d0", kind, 14, 0, BAD);
        }
    }

    private static void addUpTo30Events() {
        String rings = "b0d0".repeat(13);
        added("b0x0d0" + "b0d0".repeat(12), 0, 1, 0, "b0b1x0d1x0d0" + "b0d0".repeat(12));
        added("b0x0d0" + "b0d0".repeat(12), 1, 2, 1, "b0x0b1x2d1d0" + "b0d0".repeat(12));
        added("b0d0" + rings, 2, 1, 0, "b0b1d0d0" + rings);
        added(rings + "b0d0", 3, 27, 1, rings + "b0b1d2d0");
        for (int kind = 0; kind < 2; kind++) {
            notAdded("b0d0" + rings, kind, 1, 0, FULL);
            notAdded(rings + "b0d0", kind, 27, 1, FULL);
        }
        for (int kind = 0; kind < 4; kind++) {
            notAdded("b0x0d0" + rings, kind, 1, 0, FULL);
            notAdded(rings + "b0x0d0", kind, 28, 1, FULL);
            notAdded("b0d0".repeat(15), kind, 1, 0, FULL);
            notAdded("b0d0".repeat(15), kind, 29, 1, FULL);
        }
    }

    private static void addUpTo12Crosses() {
        String eleven = "x0".repeat(11) + "d0";
        String twelve = TWELVE_CROSSES + "d0";
        added("b0" + eleven, 0, 1, 0, "b0b1x0d1" + eleven);
        added("b0" + eleven, 1, 1, 1, "b0b1x2d1" + eleven);
        for (int kind = 0; kind < 2; kind++) {
            notAdded("b0" + twelve, kind, 1, 0, FULL);
            notAdded("b0" + twelve, kind, 13, 1, FULL);
        }
        added("b0" + twelve, 2, 1, 0, "b0b1d0" + twelve);
        added("b0" + twelve, 3, 13, 0, "b0" + TWELVE_CROSSES + "b0d1d0");
    }

    private static void addUpTo10Strands() {
        for (int kind = 0; kind < 4; kind++) {
            notAdded(TEN + TEN_END, kind, 5, 0, FULL);
            notAdded(TEN + TEN_END, kind, 5, 9, FULL);
        }
        added(TEN + TEN_END, 0, 4, 7, "b0b0b0b0b8x7d8b0" + TEN_END);
        added(TEN + TEN_END, 1, 6, 7, TEN + "d0b7x8d7d0d0d0d0");
        added(TEN + TEN_END, 2, 4, 7, "b0b0b0b0b8d7b0" + TEN_END);
        added(TEN + TEN_END, 3, 6, 7, TEN + "d0b7d8d0d0d0d0");
        notAdded(TEN + TEN_END, 3, 6, 8, BAD);
    }

    // ---- 22

    private static void pushed(String text, int kind, int i, String want) {
        done("22 push(0, " + kind + ", " + i + ")", want, x -> x.push(0, kind, i), text);
    }

    private static void notPushed(String text, int kind, int i, int want) {
        refused("22 push(0, " + kind + ", " + i + ")", want, x -> x.push(0, kind, i), text);
    }

    private static void pushOfBadNumbers() {
        for (int f : NO_FRONTS) {
            refused("22 front " + f, BAD, x -> x.push(f, 0, 1), "b0b1d1d0");
        }
        for (int kind : new int[] {MIN, -1, 2, MAX}) {
            notPushed("b0b1d1d0", kind, 1, BAD);
            // ahead of STATE, and of FULL
            notPushed("b0x0d0", kind, 1, BAD);
            notPushed("b0b1d1d0" + "b0d0".repeat(13), kind, 1, BAD);
            notPushed("b0b1" + TWELVE_CROSSES + "d1d0", kind, 1, BAD);
        }
        for (int kind = 0; kind < 2; kind++) {
            for (int i : new int[] {MIN, -1, 4, 30, MAX}) {
                notPushed("b0b1d1d0", kind, i, BAD);
            }
        }
    }

    private static void pushOfACross() {
        for (int kind = 0; kind < 2; kind++) {
            notPushed("b0b2x1d2d0", kind, 2, STATE);
            notPushed("b0" + TWELVE_CROSSES + "d0", kind, 1, STATE);
            notPushed("b0b0x0d0d0" + "b0d0".repeat(12), kind, 2, STATE);
        }
    }

    /** The STRAND beside it, below (kind 0) or above (kind 1), is there or not. */
    private static void pushAtBothEdges() {
        for (int kind = 0; kind < 2; kind++) {
            notPushed("b0d0", kind, 0, STATE);
            notPushed("b0d0", kind, 1, STATE);
        }
        notPushed("b0b0d0d0", 0, 1, STATE);
        pushed("b0b0d0d0", 1, 1, "b0b1x0x1d0d0");
        pushed("b0b1d0d0", 0, 1, "b0b0x1x0d0d0");
        pushed("b0b1d0d0", 1, 1, "b0b2x1x2d0d0");
        pushed("b0b2d0d0", 0, 1, "b0b1x2x1d0d0");
        notPushed("b0b2d0d0", 1, 1, STATE);
        notPushed("b0b0d0d0", 0, 2, STATE);
        pushed("b0b0d0d0", 1, 2, "b0b0x1x0d1d0");
        pushed("b0b0d1d0", 0, 2, "b0b0x0x1d0d0");
        pushed("b0b0d1d0", 1, 2, "b0b0x2x1d2d0");
        pushed("b0b0d2d0", 0, 2, "b0b0x1x2d1d0");
        notPushed("b0b0d2d0", 1, 2, STATE);
        // ten STRANDS are none too many
        pushed("b0b0b0b0b8" + TEN_END, 0, 4, "b0b0b0b0b7x8x7" + TEN_END);
        notPushed("b0b0b0b0b8" + TEN_END, 1, 4, STATE);
        pushed(TEN + "d7d0d0d0d0", 1, 5, TEN + "x8x7d8d0d0d0d0");
        notPushed(TEN + "d8d0d0d0d0", 1, 5, STATE);
    }

    private static void pushUpTo30Events() {
        String rings = "b0d0".repeat(12);
        for (int i = 1; i <= 2; i++) {
            String want = i == 1 ? "b0b0x1x0d1d0" : "b0b1x0x1d0d0";
            pushed("b0b1d1d0" + rings, 0, i, want + rings);
            pushed(rings + "b0b1d1d0", 0, 24 + i, rings + want);
            for (int kind = 0; kind < 2; kind++) {
                notPushed("b0x0b1d1d0" + rings, kind, i + 1, FULL);
                notPushed("b0b1d1d0b0d0" + rings, kind, i, FULL);
                notPushed("b0b1d1d0" + "b0d0".repeat(13), kind, i, FULL);
            }
        }
        // STATE ahead of FULL
        notPushed("b0d0".repeat(15), 0, 0, STATE);
        notPushed("b0d0".repeat(15), 1, 29, STATE);
    }

    private static void pushUpTo12Crosses() {
        String ten = "b0" + "x0".repeat(10);
        pushed(ten + "b1d1d0", 0, 11, ten + "b0x1x0d1d0");
        pushed(ten + "b1d1d0", 1, 12, ten + "b1x2x1d2d0");
        for (int crosses = 11; crosses <= 12; crosses++) {
            String many = "b0" + "x0".repeat(crosses);
            for (int kind = 0; kind < 2; kind++) {
                notPushed(many + "b1d1d0", kind, crosses + 1, FULL);
                notPushed(many + "b1d1d0", kind, crosses + 2, FULL);
                notPushed(many + "b1d1d0", kind, 0, STATE);
            }
        }
    }

    // ---- 23

    private static void joinOfNoFront() {
        for (int f : NO_FRONTS) {
            refused("23 join(" + f + ", 0)", BAD, x -> x.join(f, 0), "b0x0d0");
            refused("23 join(0, " + f + ")", BAD, x -> x.join(0, f), "b0x0d0");
        }
        CornerFronts x = Checks.with("b0x0d0", "b0d0");
        checks.due("23 join", x.join(0, 1), 2);
        checks.dueText("23 join", x, 2, "b0x0d0");
        checks.due("23 join", x.join(0, 0), 3);
        checks.dueText("23 join", x, 3, "b0x0x0d0");
        checks.due("23 join", x.join(1, 1), 4);
        checks.dueText("23 join", x, 4, "b0d0");
        checks.dueText("23 the fronts are left", x, 0, "b0x0d0");
        checks.dueText("23 the fronts are left", x, 1, "b0d0");
    }

    private static void joinWhenFull() {
        Room.leavesWithEight(checks, "23 join with eight", FULL, x -> x.join(0, 7), "b0x0d0");
        Room.leavesWithEight(checks, "23 join(8, 0) with eight", BAD, x -> x.join(8, 0), "b0x0d0");
        Room.leavesWithEight(checks, "23 join(0, 8) with eight", BAD, x -> x.join(0, 8), "b0x0d0");
        CornerFronts x = Checks.with("b0d0");
        for (int f = 1; f < 8; f++) {
            checks.due("23 join", x.join(0, f - 1), f);
        }
    }

    private static void joinUpTo30Events() {
        String sixteen = "b0d0".repeat(8);
        String seventeen = "b0x0d0" + "b0d0".repeat(7);
        String thirty = "b0d0".repeat(15);
        CornerFronts x = Checks.with(sixteen, thirty, "b0d0");
        checks.due("23 30 events", x.join(0, 0), 3);
        checks.dueText("23 30 events", x, 3, thirty);
        checks.due("23 30 events", x.join(1, 2), 4);
        checks.dueText("23 30 events", x, 4, thirty);
        checks.due("23 30 events", x.join(2, 1), 5);
        checks.dueText("23 30 events", x, 5, thirty);
        Room.leaves(checks, "23 31 events", FULL, y -> y.join(0, 1), sixteen, seventeen);
        Room.leaves(checks, "23 31 events", FULL, y -> y.join(1, 0), sixteen, seventeen);
        Room.leaves(checks, "23 31 events", FULL, y -> y.join(0, 1), thirty, "b0x0d0");
        Room.leaves(checks, "23 58 events", FULL, y -> y.join(0, 0), thirty);
    }

    private static void joinUpTo12Crosses() {
        String six = "b0" + "x0".repeat(6) + "d0";
        String seven = "b0" + "x0".repeat(7) + "d0";
        CornerFronts x = Checks.with(six, "b0" + TWELVE_CROSSES + "d0", "b0d0");
        checks.due("23 12 crosses", x.join(0, 0), 3);
        checks.dueText("23 12 crosses", x, 3, "b0" + TWELVE_CROSSES + "d0");
        checks.due("23 12 crosses", x.join(1, 2), 4);
        checks.due("23 12 crosses", x.join(2, 1), 5);
        Room.leaves(checks, "23 13 crosses", FULL, y -> y.join(0, 1), six, seven);
        Room.leaves(checks, "23 13 crosses", FULL, y -> y.join(1, 0), six, seven);
        Room.leaves(checks, "23 13 crosses", FULL, y -> y.join(0, 1), "b0" + TWELVE_CROSSES + "d0", "b0x0d0");
        Room.leaves(checks, "23 13 crosses", FULL, y -> y.join(1, 0), "b0" + TWELVE_CROSSES + "d0", "b0x0d0");
    }

    // ---- 24

    private static void unlikeOfNoFront() {
        for (int f : NO_FRONTS) {
            refused("24 unlike(" + f + ", 0)", BAD, x -> x.unlike(f, 0), "b0x0d0");
            refused("24 unlike(0, " + f + ")", BAD, x -> x.unlike(0, f), "b0x0d0");
            refused("24 unlike(" + f + ", " + f + ")", BAD, x -> x.unlike(f, f), "b0x0d0");
        }
    }

    private static void unlikeOfOneFront() {
        String thirty = "b0d0".repeat(15);
        Room.leaves(checks, "24 itself", NONE, x -> x.unlike(0, 0), thirty, "b0d0");
        Room.leaves(checks, "24 itself", NONE, x -> x.unlike(1, 1), thirty, "b0d0");
        CornerFronts x = Checks.with(thirty, thirty, "b0b0d2d0", "b0b2d2d0");
        checks.due("24 one that is as it", x.unlike(0, 1), NONE);
        x.move(2, 0, 0);
        checks.due("24 moved to be as it", x.unlike(2, 3), NONE);
    }

    private static void unlikes(int want, String text, String other) {
        Room.leaves(checks, "24 " + text + " and " + other, want, x -> x.unlike(0, 1), text, other);
        Room.leaves(checks, "24 " + other + " and " + text, want, x -> x.unlike(1, 0), text, other);
    }

    private static void unlikeWhereOneEnds() {
        unlikes(2, "b0d0", "b0d0b0d0");
        unlikes(28, "b0d0".repeat(14), "b0d0".repeat(15));
        unlikes(2, "b0d0", "b0d0".repeat(15));
        unlikes(1, "b0d0", "b0x0d0");
        // by its number alone, by what it is alone, at the last EVENT that both have
        unlikes(1, "b0b0d0d0", "b0b1d0d0");
        unlikes(2, "b0b0d0d0", "b0b0x0d0d0");
        String rings = "b0d0".repeat(13);
        unlikes(28, rings + "b0b0d0d0", rings + "b0b0d1d0");
    }

    // ---- 25

    private static void countOfNoSuchNumber() {
        for (int what : new int[] {MIN, -1, 3, MAX}) {
            refused("25 count(" + what + ")", BAD, x -> x.count(what), "b0d0");
        }
    }

    private static void countOfTheLargest() {
        CornerFronts x = new CornerFronts();
        for (int k = 1; k < 4; k++) {
            x.sheet(k, 0, 5);
        }
        checks.due("25 sheet 0 has nothing", x.count(1), NONE);
        x.sheet(0, 0, -1);
        x.sheet(0, 0, 63);
        checks.due("25 it still has nothing", x.count(1), NONE);
        x.sheet(0, 0, 0);
        checks.due("25 no cells", x.count(1), 0);
        x.sheet(0, 2, 62);
        checks.due("25 cells", x.count(1), 62);
        for (int n = 0; n < 16; n++) {
            checks.due("25 bytes", x.count(2), 8 * n);
            checks.due("25 feed", x.feed(0), n < 15 ? 8 * n + 8 : FULL);
        }
        checks.due("25 bytes", x.count(2), 120);
        x.end(0);
        for (int n = 0; n < 9; n++) {
            checks.due("25 fronts", x.count(0), n);
            Checks.front(x, "b0d0");
            x.end(0);
        }
        checks.due("25 fronts", x.count(0), 8);
    }
}
