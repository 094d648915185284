/** Promises 18 and 19: rulings by their sort and their switches, and the first one. */
public final class RulingsTest {
    private static final Checks checks = new Checks("RulingsTest");
    private static final int BAD = CornerFronts.BAD;
    private static final int STATE = CornerFronts.STATE;
    private static final int NONE = CornerFronts.NONE;

    public static void main(String[] args) {
        counted();
        ofSorts();
        firstOnes();
        refusals();
        manySwitches();
        checks.finish();
    }

    /** How many there are with 0, 1, 2 .. SWITCHED. */
    private static void counted(String text, int sort, int... want) {
        CornerFronts x = Checks.with(text);
        int sum = 0;
        for (int n = 0; n <= 14; n++) {
            int due = n < want.length ? want[n] : 0;
            sum += due;
            checks.due("rulings(0, " + sort + ", " + n + ") of " + text, x.rulings(0, sort, n), due);
        }
        checks.due("rulings(0, " + sort + ", -1) of " + text, x.rulings(0, sort, -1), sum);
    }

    private static void counted() {
        counted("b0d0", 0, 1);
        counted("b0b1d1d0b0d0", 0, 1);
        // a pair that crosses itself, a zigzag
        counted("b0x0d0", 0);
        counted("b0b1d0d0", 0);
        counted("b0b2x1d1d0", 0);
        // beside one another, one in the other
        counted("b0b2x1x1d2d0", 0, 1, 0, 1);
        counted("b0b1x0x0d1d0", 0, 1, 0, 1);
        counted("b0b1x2x2d1d0", 0, 1, 0, 1);
        counted("b0b2x1x1x1d2d0", 0, 0, 2, 0, 1);
        counted("b0b2x1x1x1x1d2d0", 0, 1, 0, 3, 0, 1);
        // curls on either side
        counted("b0b1x0d1d0", 0, 0, 1);
        counted("b0b0x1d0d0", 0, 0, 1);
        counted("b0b2x1d2d0", 0, 0, 1);
    }

    private static void ofSorts() {
        counted("b0b2x1x1d2d0", 1, 1);
        counted("b0b1x0x0d1d0", 1, 1, 0, 1);
        counted("b0b2x1x1x1d2d0", 1, 0, 2, 0, 1);
        counted("b0b2x1x1x1d2d0", 2, 0, 2, 0, 1);
        counted("b0d0", 2, 1);
        // a trefoil whose second BIRTH is pushed
        counted("b0b1x0x1x1x1x1d2d0", 0, 0, 2, 0, 1);
        // PLUS ones of DEGREE -2 and 2 are SWITCHED in one of its two
        String other = "b0b2x1x1x1x2x0x1x1d0d0";
        counted(other, 0, 0, 1, 0, 1);
        counted(other, 1, 0, 1, 0, 1);
        counted(other, 2, 0, 1);
    }

    private static void firstOnes(String text, int sort, String want) {
        CornerFronts x = Checks.with(text);
        for (int i = 0; i < want.length(); i++) {
            checks.due("first(0, " + sort + ", " + i + ") of " + text, x.first(0, sort, i), want.charAt(i) - '0');
        }
        checks.due("one more", x.first(0, sort, want.length()), BAD);
    }

    private static void firstOnes() {
        firstOnes("b0d0", 0, "");
        firstOnes("b0b2x1d2d0", 0, "1");
        firstOnes("b0b2x1x1d2d0", 0, "00");
        firstOnes("b0b2x1x1x1d2d0", 0, "001");
        firstOnes("b0b2x1x1x1d2d0", 1, "001");
        firstOnes("b0b2x1x1x1d2d0", 2, "001");
        firstOnes("b0b2x1x1x1d2b2x1x1x1d2d0", 0, "001001");
        firstOnes("b0b2x1x1x1x1d2d0", 0, "0000");
        firstOnes("b0b2x1x1x1x1x1d2d0", 0, "00001");
        firstOnes("b0b2x1x1x1x2x0x1x1d0d0", 2, "0000001");
        CornerFronts x = Checks.with("b0x0d0", "b0b2x1x1d1d0");
        checks.due("no ruling", x.first(0, 0, 0), NONE);
        checks.due("no ruling", x.first(0, 1, 0), NONE);
        checks.due("no ruling", x.first(0, 2, 0), NONE);
        checks.due("no ruling, no such cross", x.first(0, 0, 1), BAD);
        checks.due("no ruling", x.first(1, 0, 1), NONE);
    }

    private static void refusals() {
        CornerFronts x = Checks.with("b0b2x1x1x1d2d0", "b0b2x1x1d2d0");
        checks.due("front 2", x.rulings(2, 0, 0), BAD);
        checks.due("front -1", x.rulings(-1, 0, 0), BAD);
        checks.due("sort 3", x.rulings(0, 3, 0), BAD);
        checks.due("sort -1", x.rulings(0, -1, 0), BAD);
        checks.due("n -2", x.rulings(0, 0, -2), BAD);
        checks.due("n min", x.rulings(0, 0, Integer.MIN_VALUE), BAD);
        checks.due("n max", x.rulings(0, 0, Integer.MAX_VALUE), 0);
        checks.due("two pieces", x.rulings(1, 2, 0), STATE);
        checks.due("two pieces, any", x.rulings(1, 2, -1), STATE);
        checks.due("two pieces, n -2", x.rulings(1, 2, -2), BAD);
        checks.due("front 2", x.first(2, 0, 0), BAD);
        checks.due("front -1", x.first(-1, 0, 0), BAD);
        checks.due("sort 3", x.first(0, 3, 0), BAD);
        checks.due("sort -1", x.first(0, -1, 0), BAD);
        checks.due("cross 3", x.first(0, 0, 3), BAD);
        checks.due("cross -1", x.first(0, 0, -1), BAD);
        checks.due("cross max", x.first(0, 0, Integer.MAX_VALUE), BAD);
        checks.due("two pieces", x.first(1, 2, 0), STATE);
        checks.due("two pieces, cross 2", x.first(1, 2, 2), BAD);
    }

    /** Of a twist of n CROSSES between two pairs: those of the (2, n) knots and links. */
    private static void manySwitches() {
        int[] all = {1, 1, 2, 3, 5, 8, 13, 21, 34, 55, 89, 144, 233};
        for (int n = 1; n <= 12; n++) {
            CornerFronts x = Checks.with("b0b2" + Checks.times("x1", n) + "d2d0");
            checks.due("twist of " + n, x.rulings(0, 0, -1), all[n]);
            checks.due("all switched of " + n, x.rulings(0, 0, n), 1);
        }
    }
}
