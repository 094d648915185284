import java.util.function.ToIntFunction;

/** The boundary sentences of promises 18 and 19 and of the term of rulings, one test each. */
public final class RulingEdgesTest {
    private static final Checks checks = new Checks("RulingEdgesTest");
    private static final int BAD = CornerFronts.BAD;
    private static final int STATE = CornerFronts.STATE;
    private static final int NONE = CornerFronts.NONE;
    private static final int MIN = Integer.MIN_VALUE;
    private static final int MAX = Integer.MAX_VALUE;
    private static final String TREFOIL = "b0b2x1x1x1d2d0";
    private static final String HOPF = "b0b2x1x1d2d0";
    /** One PIECE and two: neither has a RULING. */
    private static final String LOOP = "b0x0d0";
    private static final String LOOP_AND_RING = "b0x0d0b0d0";
    /** Its only RULING has the first and the last CROSS SWITCHED; all four are MINUS and of DEGREE 1. */
    private static final String MINUS_ONLY = "b0b1x2x0x1x1d0d0";
    private static final int[] NO_FRONTS = {MIN, -1, 2, 7, 8, MAX};
    private static final int[] NO_SORTS = {MIN, -1, 3, MAX};

    public static void main(String[] args) {
        rulingsOfBadNumbers();
        rulingsOfMorePieces();
        rulingsBeyondTheCrosses();
        rulingsOfNone();
        rulingsOfTheLargest();
        rulingsOfTenStrands();
        pairsMayNotCross();
        pairsThatHoldJustOne();
        firstOfBadNumbers();
        firstOfMorePieces();
        firstOfNone();
        firstOfTheLargest();
        firstIsNotTheOneOfFewest();
        the512thCall();
        checks.finish();
    }

    private static void refused(String what, int want, ToIntFunction<CornerFronts> call) {
        leaves(what, want, call);
    }

    private static void leaves(String what, int want, ToIntFunction<CornerFronts> call) {
        Room.leaves(checks, what, want, call, TREFOIL, HOPF);
    }

    /** How many there are with 0, 1, 2 .. SWITCHED, and which are SWITCHED in the first one. */
    private static void ruled(String text, int sort, String first, int... want) {
        CornerFronts x = Checks.with(text);
        String of = " of sort " + sort + " of " + text;
        int sum = 0;
        for (int n = 0; n <= 13; n++) {
            int due = n < want.length ? want[n] : 0;
            sum += due;
            checks.due("18 with " + n + of, x.rulings(0, sort, n), due);
        }
        checks.due("18 with any" + of, x.rulings(0, sort, -1), sum);
        int crosses = x.about(0, 1);
        for (int i = 0; i < crosses; i++) {
            checks.due("19 cross " + i + of, x.first(0, sort, i), sum == 0 ? NONE : first.charAt(i) - '0');
        }
        checks.due("19 behind the last" + of, x.first(0, sort, crosses), BAD);
        checks.due("19 ahead of the first" + of, x.first(0, sort, -1), BAD);
    }

    // ---- 18

    private static void rulingsOfBadNumbers() {
        for (int f : NO_FRONTS) {
            refused("18 front " + f, BAD, x -> x.rulings(f, 0, -1));
            refused("18 front " + f + " of sort 2", BAD, x -> x.rulings(f, 2, -1));
        }
        for (int sort : NO_SORTS) {
            refused("18 sort " + sort, BAD, x -> x.rulings(0, sort, -1));
            refused("18 sort " + sort + " of two pieces", BAD, x -> x.rulings(1, sort, -1));
        }
        for (int n : new int[] {MIN, -3, -2}) {
            refused("18 n " + n, BAD, x -> x.rulings(0, 0, n));
            // ahead of STATE
            refused("18 n " + n + " of two pieces", BAD, x -> x.rulings(1, 2, n));
        }
    }

    private static void rulingsOfMorePieces() {
        for (int n : new int[] {-1, 0, 1, 2, 3, 12, 13}) {
            refused("18 two pieces", STATE, x -> x.rulings(1, 2, n));
        }
        leaves("18 two pieces of sort 0", 2, x -> x.rulings(1, 0, -1));
        leaves("18 two pieces of sort 1", 1, x -> x.rulings(1, 1, -1));
        leaves("18 one piece of sort 2", 3, x -> x.rulings(0, 2, -1));
        Room.leaves(checks, "18 two pieces without rulings", STATE, x -> x.rulings(0, 2, -1), LOOP_AND_RING);
        Room.leaves(checks, "18 fifteen pieces", STATE, x -> x.rulings(0, 2, 0), "b0d0".repeat(15));
    }

    /** No more can be SWITCHED than there are: of these there are no RULINGS. */
    private static void rulingsBeyondTheCrosses() {
        CornerFronts x = Checks.with("b0d0", TREFOIL, "b0b2" + "x1".repeat(12) + "d2d0");
        int[] crosses = {0, 3, 12};
        for (int f = 0; f < 3; f++) {
            checks.due("18 all switched", x.rulings(f, 0, crosses[f]), 1);
            for (int n : new int[] {crosses[f] + 1, 13, 14, 31, 32, 33, 1000, MAX}) {
                checks.due("18 with " + n + " of " + crosses[f], x.rulings(f, 0, n), 0);
            }
        }
        checks.due("18 twelve of any", x.rulings(2, 0, -1), 233);
    }

    private static void rulingsOfNone() {
        for (int sort = 0; sort < 3; sort++) {
            ruled(LOOP, sort, "");
            ruled("b0b1d0d0", sort, "");
            ruled("b0b2x1d1d0", sort, "");
        }
        for (int sort = 0; sort < 2; sort++) {
            ruled(LOOP_AND_RING, sort, "");
        }
    }

    private static void rulingsOfTheLargest() {
        String four = "b0" + "b2x1x1x1d2".repeat(4) + "d0";
        int[] want = {0, 0, 0, 0, 16, 0, 32, 0, 24, 0, 8, 0, 1};
        for (int sort = 0; sort < 3; sort++) {
            ruled(four, sort, "001".repeat(4), want);
        }
        ruled(four + "b0d0".repeat(4), 0, "001".repeat(4), want);
        ruled("b0d0".repeat(4) + four, 1, "001".repeat(4), want);
        ruled("b0d0".repeat(15), 0, "", 1);
        ruled("b0d0".repeat(15), 1, "", 1);
    }

    /** Two pairs among five, beside one another and in one another, at both ends. */
    private static void rulingsOfTenStrands() {
        String beside = "b0b2b4b6b8";
        String besideEnd = "d8d6d4d2d0";
        for (int k = 1; k < 9; k += 2) {
            ruled(beside + ("x" + k).repeat(3) + besideEnd, 0, "001", 0, 2, 0, 1);
        }
        String within = "b0b1b2b3b4";
        String withinEnd = "d4d3d2d1d0";
        for (int k : new int[] {0, 1, 2, 3, 5, 6, 7, 8}) {
            ruled(within + ("x" + k).repeat(3) + withinEnd, 0, "001", 0, 2, 0, 1);
        }
        ruled(within + "x8x0" + withinEnd, 0, "00", 1, 0, 1);
        ruled(within + "x8x0" + withinEnd, 1, "00", 1, 0, 1);
        // as they are not SWITCHED the two pairs hold just one of each other's, until the next one
        ruled(within + "x8x0x0x8" + withinEnd, 0, "0000", 1, 0, 3, 0, 1);
        // what is below leaves the mates of what is above, and the other way
        ruled("b0b2b4b6b7x1x8x8x1d7d6d4d2d0", 0, "0000", 1, 0, 2, 0, 1);
        ruled("b0b2b4b6b7x8x1x1x8d7d6d4d2d0", 0, "0000", 1, 0, 2, 0, 1);
        ruled("b0b2b4b6b7x8x1x1x8d7d6d4d2d0", 1, "0000", 1, 0, 1);
    }

    private static void pairsMayNotCross() {
        ruled("b0x0x0d0", 0, "");
        ruled("b0b2x0d2d0", 0, "");
        ruled("b0b2x2d2d0", 0, "");
        ruled("b0b1x1d1d0", 0, "");
    }

    /** What would be a RULING if pairs that hold just one of the other's could be SWITCHED. */
    private static void pairsThatHoldJustOne() {
        ruled(TREFOIL, 0, "001", 0, 2, 0, 1);
        ruled("b0b1x0x0x0d1d0", 0, "001", 0, 2, 0, 1);
        ruled("b0b1x2x2x2d1d0", 0, "001", 0, 2, 0, 1);
        ruled(MINUS_ONLY, 0, "1001", 0, 0, 1);
        ruled(MINUS_ONLY, 1, "");
        ruled(MINUS_ONLY, 2, "");
        // PLUS, but of DEGREES -2 and 2
        ruled("b0b2x1x1x1x2x0x1x1d0d0", 1, "0000001", 0, 1, 0, 1);
        ruled("b0b2x1x1x1x2x0x1x1d0d0", 2, "0000001", 0, 1);
    }

    // ---- 19

    private static void firstOfBadNumbers() {
        for (int f : NO_FRONTS) {
            refused("19 front " + f, BAD, x -> x.first(f, 0, 0));
        }
        for (int sort : NO_SORTS) {
            refused("19 sort " + sort, BAD, x -> x.first(0, sort, 0));
            refused("19 sort " + sort + " of two pieces", BAD, x -> x.first(1, sort, 0));
        }
        for (int i : new int[] {MIN, -1, 3, 12, 31, 32, MAX}) {
            refused("19 cross " + i, BAD, x -> x.first(0, 0, i));
            // ahead of STATE
            refused("19 cross " + i + " of two pieces", BAD, x -> x.first(1, 2, i));
        }
        Room.leaves(checks, "19 no crosses", BAD, x -> x.first(0, 0, 0), "b0d0");
    }

    private static void firstOfMorePieces() {
        refused("19 two pieces", STATE, x -> x.first(1, 2, 0));
        refused("19 two pieces", STATE, x -> x.first(1, 2, 1));
        refused("19 behind the last of two pieces", BAD, x -> x.first(1, 2, 2));
        leaves("19 two pieces of sort 1", 0, x -> x.first(1, 1, 0));
        // STATE ahead of NONE
        Room.leaves(checks, "19 two pieces without rulings", STATE, x -> x.first(0, 2, 0), LOOP_AND_RING);
    }

    private static void firstOfNone() {
        for (int sort = 0; sort < 3; sort++) {
            int of = sort;
            Room.leaves(checks, "19 no ruling", NONE, x -> x.first(0, of, 0), LOOP);
            // BAD ahead of NONE
            Room.leaves(checks, "19 no ruling, no such cross", BAD, x -> x.first(0, of, 1), LOOP);
            Room.leaves(checks, "19 no ruling, no such cross", BAD, x -> x.first(0, of, -1), LOOP);
        }
        Room.leaves(checks, "19 no ruling of two pieces", NONE, x -> x.first(0, 0, 0), LOOP_AND_RING);
        for (int i = 0; i < 4; i++) {
            int cross = i;
            Room.leaves(checks, "19 none of sort 1", NONE, x -> x.first(0, 1, cross), MINUS_ONLY);
            Room.leaves(checks, "19 none of sort 2", NONE, x -> x.first(0, 2, cross), MINUS_ONLY);
            Room.leaves(checks, "19 one of sort 0", i % 3 == 0 ? 1 : 0, x -> x.first(0, 0, cross), MINUS_ONLY);
        }
    }

    private static void firstOfTheLargest() {
        CornerFronts x = Checks.with("b0b2" + "x1".repeat(11) + "d2d0", "b0b2" + "x1".repeat(12) + "d2d0",
            "b0" + "b2x1d2".repeat(9) + "d0");
        for (int i = 0; i < 12; i++) {
            checks.due("19 cross " + i + " of 11", x.first(0, 0, i), i == 11 ? BAD : i == 10 ? 1 : 0);
            checks.due("19 cross " + i + " of 12", x.first(1, 0, i), 0);
            checks.due("19 cross " + i + " of 9", x.first(2, 0, i), i < 9 ? 1 : BAD);
        }
        checks.due("19 cross 12 of 12", x.first(1, 0, 12), BAD);
    }

    /** The first CROSSES come ahead of how many are SWITCHED: these have a RULING with just one. */
    private static void firstIsNotTheOneOfFewest() {
        ruled("b0b2b1x0x3x2x0x2x3x1d2d0d0", 0, "0101010", 0, 1, 0, 3, 0, 1);
        ruled("b0b2b1x0x3x2x0x2x3x1d2d0d0", 1, "1000000", 0, 1);
        ruled("b0b1b4x3x2x0x3x3x0x1d2d0d0", 0, "0110100", 0, 1, 0, 3, 0, 1);
        ruled("b0b1b4x3x2x0x3x3x0x1d2d0d0", 1, "0110100", 0, 1, 0, 3, 0, 1);
    }

    // ---- an object is used for at most 512 calls, and all of them answer

    private static void the512thCall() {
        CornerFronts x = new CornerFronts();
        String four = "b0" + "b2x1x1x1d2".repeat(4) + "d0    ";
        int calls = 0;
        for (int at = 0; at < four.length(); at += 8) {
            x.feed(Checks.eightBytes(four, at));
            calls++;
        }
        checks.due("4 front", x.front(), 0);
        for (calls++; calls < 511; calls++) {
            checks.due("18 call " + calls, x.rulings(0, calls % 3, -1), 81);
        }
        checks.due("19 the 512th call", x.first(0, 2, 11), 1);
        looksUpTo512();
    }

    /** As many of the calls as can be ask of a FRONT: one feeds it and one tells it. */
    private static void looksUpTo512() {
        CornerFronts x = new CornerFronts();
        x.feed(Checks.eightBytes("b0x0d0", 0));
        checks.due("4 front", x.front(), 0);
        for (int call = 2; call < 512; call++) {
            checks.due("11 call " + call, x.event(0, call % 3, 0), call % 3);
        }
    }
}
