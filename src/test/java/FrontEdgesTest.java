import java.util.function.ToIntFunction;

/** The boundary sentences of promises 9 to 17 and of the terms of pieces and levels, one test each. */
public final class FrontEdgesTest {
    private static final Checks checks = new Checks("FrontEdgesTest");
    private static final int BAD = CornerFronts.BAD;
    private static final int FULL = CornerFronts.FULL;
    private static final int NONE = CornerFronts.NONE;
    private static final int BAD_NUMBER = -1000;
    private static final int MORE_PIECES = -1002;
    private static final int MIN = Integer.MIN_VALUE;
    private static final int MAX = Integer.MAX_VALUE;
    private static final String TREFOIL = "b0b2x1x1x1d2d0";
    private static final String HOPF = "b0b2x1x1d2d0";
    /** Just below the first and just behind the last of two FRONTS, and further away. */
    private static final int[] NO_FRONTS = {MIN, -1, 2, 7, 8, MAX};
    private static final String FIFTEEN_PIECES = "b0d0".repeat(15);
    /** One PIECE with fifteen BIRTHS: fourteen zigzags. */
    private static final String FIFTEEN_BIRTHS = "b0" + "b1d0".repeat(14) + "d0";
    /** Five rings in one another; the outer two cross above and below. */
    private static final String TEN_STRANDS = "b0b1b2b3b4x8x0d4d3d2d1d0";

    public static void main(String[] args) {
        copyOfNoFront();
        copyWhenFull();
        copyOfItsOwn();
        dropOfNone();
        dropFreesTheNumber();
        eventOfNoSuchNumber();
        eventAtBothEnds();
        aboutOfNoSuchNumber();
        aboutTheLargest();
        pieceOfNoSuchStrand();
        pieceOfFifteen();
        numberOfNoSuchPiece();
        numbersOfTheLargest();
        linkOfNoSuchPieces();
        linkOfOneAndTheSame();
        signOfNoCross();
        degreeOfNoCross();
        degreeOfMorePieces();
        degreeModulo();
        rowsThatWereLonger();
        checks.finish();
    }

    private static void refused(String what, int want, ToIntFunction<CornerFronts> call) {
        Room.leaves(checks, what, want, call, TREFOIL, HOPF);
    }

    // ---- 9

    private static void copyOfNoFront() {
        for (int f : NO_FRONTS) {
            refused("9 copy(" + f + ")", BAD, x -> x.copy(f));
        }
        CornerFronts x = Checks.with(TREFOIL, HOPF);
        checks.due("9 copy of the last", x.copy(1), 2);
        checks.dueText("9 copy of the last", x, 2, HOPF);
        checks.due("9 copy of the first", x.copy(0), 3);
        checks.dueText("9 copy of the first", x, 3, TREFOIL);
    }

    private static void copyWhenFull() {
        Room.leavesWithEight(checks, "9 copy with eight", FULL, x -> x.copy(0), TREFOIL);
        Room.leavesWithEight(checks, "9 copy of the eighth", FULL, x -> x.copy(7), TREFOIL);
        Room.leavesWithEight(checks, "9 copy(8) with eight", BAD, x -> x.copy(8), TREFOIL);
        Room.leavesWithEight(checks, "9 copy(-1) with eight", BAD, x -> x.copy(-1), TREFOIL);
        CornerFronts x = Checks.with(FIFTEEN_PIECES);
        for (int f = 1; f < 8; f++) {
            checks.due("9 copy", x.copy(0), f);
        }
        checks.dueText("9 the eighth", x, 7, FIFTEEN_PIECES);
    }

    /** What is done to the one is not done to the other. */
    private static void copyOfItsOwn() {
        CornerFronts x = Checks.with(TREFOIL);
        x.copy(0);
        checks.due("9 add to the first", x.add(0, 2, 1, 0), 9);
        checks.dueText("9 the copy", x, 1, TREFOIL);
        checks.due("9 push of the copy", x.push(1, 0, 1), 9);
        checks.dueText("9 the first", x, 0, "b0b1d0b2x1x1x1d2d0");
        checks.due("9 unlike", x.unlike(0, 1), 2);
    }

    // ---- 10

    private static void dropOfNone() {
        CornerFronts x = new CornerFronts();
        checks.due("10 drop of none", x.drop(), NONE);
        Checks.front(x, "b0d0");
        checks.due("10 drop of one", x.drop(), 0);
        checks.due("10 drop of none", x.drop(), NONE);
        checks.due("10 drop of none again", x.drop(), NONE);
        checks.due("10 fronts", x.count(0), 0);
        checks.due("10 the next front", Checks.front(x, "b0d0"), 0);
    }

    private static void dropFreesTheNumber() {
        CornerFronts x = Checks.with(TREFOIL);
        for (int f = 1; f < 8; f++) {
            x.copy(0);
        }
        checks.due("10 drop of eight", x.drop(), 7);
        checks.due("10 it is gone", x.copy(7), BAD);
        checks.due("10 it is gone", x.about(7, 0), BAD);
        checks.due("10 there is room", Checks.front(x, "b0d0"), 7);
        checks.dueText("10 another one", x, 7, "b0d0");
        for (int f = 7; f >= 0; f--) {
            checks.due("10 drop", x.drop(), f);
            checks.due("10 fronts", x.count(0), f);
        }
        checks.due("10 none", x.drop(), NONE);
    }

    // ---- 11

    private static void eventOfNoSuchNumber() {
        for (int f : NO_FRONTS) {
            refused("11 front " + f, BAD, x -> x.event(f, 0, 0));
        }
        for (int i : new int[] {MIN, -1, 7, 29, 30, 31, MAX}) {
            for (int what = 0; what < 3; what++) {
                int of = what;
                refused("11 event " + i, BAD, x -> x.event(0, i, of));
            }
        }
        for (int what : new int[] {MIN, -1, 3, MAX}) {
            refused("11 what " + what, BAD, x -> x.event(0, 0, what));
        }
    }

    private static void eventAtBothEnds() {
        CornerFronts x = Checks.with(FIFTEEN_PIECES);
        int[] firstOne = {0, 0, 0};
        int[] lastOne = {2, 0, 2};
        for (int what = 0; what < 3; what++) {
            checks.due("11 the first event", x.event(0, 0, what), firstOne[what]);
            checks.due("11 the last event", x.event(0, 29, what), lastOne[what]);
            checks.due("11 behind it", x.event(0, 30, what), BAD);
        }
        CornerFronts y = Checks.with(TEN_STRANDS);
        checks.due("11 most strands ahead", y.event(0, 5, 2), 10);
        checks.due("11 the highest number", y.event(0, 5, 1), 8);
    }

    // ---- 12

    private static void aboutOfNoSuchNumber() {
        for (int f : NO_FRONTS) {
            for (int what = 0; what < 6; what++) {
                int of = what;
                refused("12 front " + f, BAD, x -> x.about(f, of));
            }
        }
        for (int what : new int[] {MIN, -1, 6, MAX}) {
            refused("12 what " + what, BAD, x -> x.about(0, what));
        }
    }

    private static void about(String text, int... want) {
        CornerFronts x = Checks.with(text);
        for (int what = 0; what < want.length; what++) {
            checks.due("12 about " + what + " of " + text, x.about(0, what), want[what]);
        }
    }

    private static void aboutTheLargest() {
        about("b0d0", 2, 0, 1, 1, 2, 0);
        about(FIFTEEN_PIECES, 30, 0, 15, 15, 2, 0);
        about(FIFTEEN_BIRTHS, 30, 0, 15, 1, 4, 0);
        about("b0b2" + "x1".repeat(12) + "d2d0", 16, 12, 2, 2, 4, 0);
        about("b0b2" + "x1".repeat(11) + "d2d0", 15, 11, 2, 1, 4, 11);
        about(TEN_STRANDS, 12, 2, 5, 5, 10, 2);
    }

    // ---- 13

    private static void pieceOfNoSuchStrand() {
        for (int f : NO_FRONTS) {
            refused("13 front " + f, BAD, x -> x.piece(f, 1, 0));
        }
        for (int i : new int[] {MIN, -1, 7, 30, MAX}) {
            refused("13 event " + i, BAD, x -> x.piece(0, i, 0));
        }
        for (int k : new int[] {MIN, -1, 4, 9, 10, MAX}) {
            refused("13 strand " + k, BAD, x -> x.piece(0, 3, k));
        }
        refused("13 no strands ahead of the first event", BAD, x -> x.piece(0, 0, 0));
        refused("13 two strands ahead of the last one", BAD, x -> x.piece(0, 6, 2));
        CornerFronts x = Checks.with("b0d0b0d0", TEN_STRANDS);
        checks.due("13 no strands between", x.piece(0, 2, 0), BAD);
        checks.due("13 the last strand", x.piece(0, 3, 1), 1);
        checks.due("13 one more", x.piece(0, 3, 2), BAD);
        checks.due("13 the tenth strand", x.piece(1, 5, 9), 0);
        checks.due("13 the eleventh", x.piece(1, 5, 10), BAD);
    }

    private static void pieceOfFifteen() {
        CornerFronts x = Checks.with(FIFTEEN_PIECES, FIFTEEN_BIRTHS);
        for (int p = 0; p < 15; p++) {
            checks.due("13 piece", x.piece(0, 2 * p + 1, 0), p);
            checks.due("13 piece", x.piece(0, 2 * p + 1, 1), p);
        }
        for (int i = 2; i < 30; i += 2) {
            for (int k = 0; k < 4; k++) {
                checks.due("13 one piece", x.piece(1, i, k), 0);
            }
        }
    }

    // ---- 14

    private static void numberOfNoSuchPiece() {
        for (int f : NO_FRONTS) {
            refused("14 front " + f, BAD_NUMBER, x -> x.number(f, 0, 0));
        }
        for (int piece : new int[] {MIN, -1, 2, 14, 15, MAX}) {
            for (int what = 0; what < 5; what++) {
                int of = what;
                refused("14 piece " + piece, BAD_NUMBER, x -> x.number(1, piece, of));
            }
        }
        for (int what : new int[] {MIN, -1, 5, MAX}) {
            refused("14 what " + what, BAD_NUMBER, x -> x.number(0, 0, what));
        }
        refused("14 piece 1 of one", BAD_NUMBER, x -> x.number(0, 1, 0));
    }

    private static void numbers(String text, int piece, int... want) {
        CornerFronts x = Checks.with(text);
        for (int what = 0; what < want.length; what++) {
            checks.due("14 number " + what + " of piece " + piece + " of " + text, x.number(0, piece, what), want[what]);
        }
    }

    /** WRITHE, TB, TURN, corners, first BIRTH. */
    private static void numbersOfTheLargest() {
        numbers(FIFTEEN_BIRTHS, 0, 0, -15, 14, 30, 0);
        numbers("b0" + "b0d1".repeat(14) + "d0", 0, 0, -15, -14, 30, 0);
        numbers(FIFTEEN_PIECES, 0, 0, -1, 0, 2, 0);
        numbers(FIFTEEN_PIECES, 14, 0, -1, 0, 2, 28);
        // all twelve MINUS, and all PLUS; each two turn the corners about
        numbers("b0" + "x0".repeat(12) + "d0", 0, -12, -13, 0, 2, 0);
        numbers("b0" + "x0".repeat(11) + "d0", 0, -11, -12, -1, 2, 0);
        numbers("b0b2" + "x1".repeat(11) + "d2d0", 0, 11, 9, 0, 4, 0);
        CornerFronts x = Checks.with(FIFTEEN_PIECES);
        checks.due("14 piece 15", x.number(0, 15, 0), BAD_NUMBER);
    }

    // ---- 15

    private static void linkOfNoSuchPieces() {
        for (int f : NO_FRONTS) {
            refused("15 front " + f, BAD_NUMBER, x -> x.link(f, 0, 1));
        }
        for (int piece : new int[] {MIN, -1, 2, 15, MAX}) {
            refused("15 piece " + piece, BAD_NUMBER, x -> x.link(1, piece, 0));
            refused("15 other " + piece, BAD_NUMBER, x -> x.link(1, 0, piece));
        }
        refused("15 one piece alone", BAD_NUMBER, x -> x.link(0, 0, 1));
        refused("15 one piece alone", BAD_NUMBER, x -> x.link(0, 1, 0));
        CornerFronts x = Checks.with("b0b2" + "x1".repeat(12) + "d2d0", FIFTEEN_PIECES, "b0b1" + "x0".repeat(12) + "d1d0");
        checks.due("15 twelve MINUS", x.link(0, 0, 1), -6);
        checks.due("15 the other way", x.link(0, 1, 0), -6);
        checks.due("15 twelve PLUS", x.link(2, 0, 1), 6);
        checks.due("15 the first and the last", x.link(1, 0, 14), 0);
        checks.due("15 behind the last", x.link(1, 0, 15), BAD_NUMBER);
    }

    private static void linkOfOneAndTheSame() {
        refused("15 one and the same", BAD_NUMBER, x -> x.link(1, 0, 0));
        refused("15 one and the same", BAD_NUMBER, x -> x.link(1, 1, 1));
        refused("15 the only one", BAD_NUMBER, x -> x.link(0, 0, 0));
    }

    // ---- 16

    private static void signOfNoCross() {
        for (int f : NO_FRONTS) {
            refused("16 front " + f, BAD, x -> x.sign(f, 2));
        }
        for (int i : new int[] {MIN, -1, 7, 30, MAX}) {
            refused("16 event " + i, BAD, x -> x.sign(0, i));
        }
        for (int i : new int[] {0, 1, 5, 6}) {
            refused("16 a corner", BAD, x -> x.sign(0, i));
        }
        CornerFronts x = Checks.with(TREFOIL, HOPF);
        checks.due("16 the first cross", x.sign(0, 2), 1);
        checks.due("16 the last cross", x.sign(0, 4), 1);
        checks.due("16 the first cross", x.sign(1, 2), 0);
        checks.due("16 the last cross", x.sign(1, 3), 0);
    }

    // ---- 17

    private static void degreeOfNoCross() {
        for (int f : NO_FRONTS) {
            refused("17 front " + f, BAD_NUMBER, x -> x.degree(f, 2));
        }
        for (int i : new int[] {MIN, -1, 7, 30, MAX}) {
            refused("17 event " + i, BAD_NUMBER, x -> x.degree(0, i));
        }
        for (int i : new int[] {0, 1, 5, 6}) {
            refused("17 a corner", BAD_NUMBER, x -> x.degree(0, i));
        }
    }

    private static void degreeOfMorePieces() {
        refused("17 two pieces", MORE_PIECES, x -> x.degree(1, 2));
        refused("17 two pieces", MORE_PIECES, x -> x.degree(1, 3));
        // that it is no CROSS fits first
        refused("17 a corner of two pieces", BAD_NUMBER, x -> x.degree(1, 1));
        refused("17 no event of two pieces", BAD_NUMBER, x -> x.degree(1, 6));
        CornerFronts x = Checks.with("b0x0d0b0d0");
        checks.due("17 a cross of one of two pieces", x.degree(0, 1), MORE_PIECES);
    }

    private static void degrees(String text, int turn, int... want) {
        CornerFronts x = Checks.with(text);
        checks.due("17 turn of " + text, x.number(0, 0, 2), turn);
        int at = 0;
        for (int i = 0; i < x.about(0, 0); i++) {
            if (x.event(0, i, 0) == 1) {
                checks.due("17 degree(0, " + i + ") of " + text, x.degree(0, i), want[at]);
                at++;
            }
        }
        checks.due("17 crosses of " + text, at, want.length);
    }

    /** TURN 0: as they are, also below 0; else from 0 on, below twice TURN without its sign. */
    private static void degreeModulo() {
        degrees(TREFOIL, 0, 0, 0, 0);
        degrees("b0b1x0x1d1b1d0d0", 0, -2, -1);
        degrees("b0b1x0x1d1d0", -1, 0, 1);
        degrees("b0x0d0", -1, 1);
        // 3 modulo 2, and -1 and 1 modulo 2
        degrees("b0x0b0d1b0d1d0", 1, 1);
        degrees("b0x0x0b1d0d0", 1, 1, 1);
        degrees("b0x0b0d1d0", 0, 1);
        // -3 modulo 4
        degrees("b0x0b1d0d0", -2, 1);
        degrees("b0b1x0x1d1b0d1d0", -2, 2, 3);
        // -1 with all the zigzags that there is room for
        degrees("b0" + "b1d0".repeat(13) + "x0d0", 12, 23);
        degrees("b0" + "b0d1".repeat(13) + "x0d0", -14, 27);
        degrees("b0x0x0d0", 0, 1, -1);
        degrees("b0x0x0" + "b1d0".repeat(13) + "d0", 13, 1, 25);
        degrees("b0x0x0" + "b0d1".repeat(13) + "d0", -13, 1, 25);
    }

    // ---- what lies behind the end of a row does not count

    private static void rowsThatWereLonger() {
        for (String longer : new String[] {"b0" + "x0".repeat(12) + "d0" + "b0d0".repeat(8), FIFTEEN_BIRTHS, FIFTEEN_PIECES}) {
            for (String text : new String[] {"b0d0", "b0x0d0", TREFOIL, HOPF}) {
                CornerFronts used = Checks.with(longer);
                used.about(0, 3);
                used.rulings(0, 0, -1);
                used.drop();
                Checks.front(used, text);
                sameAsNew("behind " + longer, used, text);
            }
        }
        CornerFronts moved = Checks.with("b0b1d0b1x0d1b1d0d0");
        moved.move(0, 4, 6);
        moved.move(0, 4, 1);
        moved.move(0, 2, 1);
        sameAsNew("moved", moved, "b0d0");
    }

    private static void sameAsNew(String what, CornerFronts used, String text) {
        CornerFronts fresh = Checks.with(text);
        int events = fresh.about(0, 0);
        checks.dueText(what, used, 0, text);
        for (int n = 0; n < 6; n++) {
            checks.due(what + ": about", used.about(0, n), fresh.about(0, n));
        }
        for (int piece = 0; piece < 3; piece++) {
            for (int n = 0; n < 5; n++) {
                checks.due(what + ": number", used.number(0, piece, n), fresh.number(0, piece, n));
            }
        }
        for (int i = 0; i <= events; i++) {
            checks.due(what + ": sign", used.sign(0, i), fresh.sign(0, i));
            checks.due(what + ": degree", used.degree(0, i), fresh.degree(0, i));
            checks.due(what + ": move", used.move(0, 4, i), fresh.move(0, 4, i));
            for (int k = 0; k < 5; k++) {
                checks.due(what + ": piece", used.piece(0, i, k), fresh.piece(0, i, k));
            }
        }
        for (int sort = 0; sort < 3; sort++) {
            for (int n = -2; n < 5; n++) {
                checks.due(what + ": rulings", used.rulings(0, sort, n), fresh.rulings(0, sort, n));
                checks.due(what + ": first", used.first(0, sort, n), fresh.first(0, sort, n));
            }
        }
    }
}
