/** Promises 13 to 17: pieces, their numbers, links, signs and degrees. */
public final class PiecesTest {
    private static final Checks checks = new Checks("PiecesTest");
    private static final int BAD = CornerFronts.BAD;

    public static void main(String[] args) {
        pieces();
        numbers();
        links();
        signs();
        degrees();
        degreesModuloTurns();
        checks.finish();
    }

    private static void pieces(String text, int i, int... want) {
        CornerFronts x = Checks.with(text);
        for (int k = 0; k < want.length; k++) {
            checks.due("piece(0, " + i + ", " + k + ") of " + text, x.piece(0, i, k), want[k]);
        }
        checks.due("one more", x.piece(0, i, want.length), BAD);
        checks.due("strand -1", x.piece(0, i, -1), BAD);
        checks.due("strand max", x.piece(0, i, Integer.MAX_VALUE), BAD);
    }

    private static void pieces() {
        pieces("b0d0", 0);
        pieces("b0d0", 1, 0, 0);
        pieces("b0d0b0d0", 1, 0, 0);
        pieces("b0d0b0d0", 2);
        pieces("b0d0b0d0", 3, 1, 1);
        pieces("b0b1b2d2d1d0", 3, 0, 1, 2, 2, 1, 0);
        pieces("b0b1b2d2d1d0", 5, 0, 0);
        pieces("b0b0b0d0d0d0", 3, 2, 2, 1, 1, 0, 0);
        pieces("b0b2x1x1d2d0", 2, 0, 0, 1, 1);
        pieces("b0b2x1x1d2d0", 3, 0, 1, 0, 1);
        pieces("b0b2x1d2d0", 3, 0, 0, 0, 0);
        CornerFronts x = Checks.with("b0d0");
        checks.due("behind all", x.piece(0, 2, 0), BAD);
        checks.due("event -1", x.piece(0, -1, 0), BAD);
        checks.due("front 1", x.piece(1, 1, 0), BAD);
        checks.due("front -1", x.piece(-1, 1, 0), BAD);
    }

    private static void numbers(String text, int piece, int... want) {
        CornerFronts x = Checks.with(text);
        for (int what = 0; what < 5; what++) {
            checks.due("number(0, " + piece + ", " + what + ") of " + text, x.number(0, piece, what), want[what]);
        }
    }

    /** WRITHE, TB, TURN, corners, first BIRTH. */
    private static void numbers() {
        numbers("b0d0", 0, 0, -1, 0, 2, 0);
        numbers("b0b2x1x1x1d2d0", 0, 3, 1, 0, 4, 0);
        numbers("b0x0d0", 0, -1, -2, -1, 2, 0);
        // zigzags on the lower STRAND, which is gone along to the left, and on the upper one
        numbers("b0b1d0d0", 0, 0, -2, 1, 4, 0);
        numbers("b0b0d1d0", 0, 0, -2, -1, 4, 0);
        numbers("b0b2d1d0", 0, 0, -2, -1, 4, 0);
        numbers("b0b1d2d0", 0, 0, -2, 1, 4, 0);
        numbers("b0b1d0b1d0d0", 0, 0, -3, 2, 6, 0);
        numbers("b0b1x0x1d1d0", 0, 0, -2, -1, 4, 0);
        // two pieces: CROSSES with the other one do not count
        numbers("b0b2x1x1d2d0", 0, 0, -1, 0, 2, 0);
        numbers("b0b2x1x1d2d0", 1, 0, -1, 0, 2, 1);
        numbers("b0d0b0b1d0d0", 1, 0, -2, 1, 4, 2);
        numbers("b0b2x2d2d0", 0, 0, -1, 0, 2, 0);
        numbers("b0b2x2d2d0", 1, -1, -2, -1, 2, 1);
        CornerFronts x = Checks.with("b0d0b0d0");
        checks.due("piece 2", x.number(0, 2, 0), -1000);
        checks.due("piece -1", x.number(0, -1, 0), -1000);
        checks.due("what 5", x.number(0, 0, 5), -1000);
        checks.due("what -1", x.number(0, 0, -1), -1000);
        checks.due("front 1", x.number(1, 0, 0), -1000);
        checks.due("front -1", x.number(-1, 0, 0), -1000);
    }

    private static void links() {
        CornerFronts x = Checks.with("b0b2x1x1d2d0", "b0b1x0x0d1d0", "b0b2x1x1x1x1d2d0", "b0d0b0d0",
            "b0b2b4x1x1x3x3d4d2d0");
        checks.due("hopf, minus", x.link(0, 0, 1), -1);
        checks.due("the other way", x.link(0, 1, 0), -1);
        checks.due("hopf, plus", x.link(1, 0, 1), 1);
        checks.due("four crosses", x.link(2, 0, 1), -2);
        checks.due("apart", x.link(3, 0, 1), 0);
        checks.due("chain", x.link(4, 0, 1), -1);
        checks.due("chain", x.link(4, 1, 2), -1);
        checks.due("chain", x.link(4, 0, 2), 0);
        checks.due("one and the same", x.link(0, 1, 1), -1000);
        checks.due("piece 2", x.link(0, 0, 2), -1000);
        checks.due("piece 2", x.link(0, 2, 0), -1000);
        checks.due("piece -1", x.link(0, -1, 0), -1000);
        checks.due("piece -1", x.link(0, 0, -1), -1000);
        checks.due("front 5", x.link(5, 0, 1), -1000);
        checks.due("front -1", x.link(-1, 0, 1), -1000);
    }

    private static void signs() {
        CornerFronts x = Checks.with("b0b1x0x1d1d0", "b0x0d0", "b0b2x1x1d2d0");
        checks.due("both to the left", x.sign(0, 2), 1);
        checks.due("to both sides", x.sign(0, 3), 0);
        checks.due("to both sides", x.sign(1, 1), 0);
        checks.due("two pieces", x.sign(2, 2), 0);
        checks.due("a BIRTH", x.sign(0, 1), BAD);
        checks.due("a DEATH", x.sign(0, 4), BAD);
        checks.due("event 6", x.sign(0, 6), BAD);
        checks.due("event -1", x.sign(0, -1), BAD);
        checks.due("front 3", x.sign(3, 2), BAD);
        checks.due("front -1", x.sign(-1, 2), BAD);
    }

    private static void degrees() {
        CornerFronts x = Checks.with("b0b2x1x1x1d2d0", "b0b1x0x1d1b1d0d0", "b0b2x1x1d2d0", "b0b1x0d1d0");
        for (int i = 2; i < 5; i++) {
            checks.due("trefoil", x.degree(0, i), 0);
        }
        // TURN is 0 there, so they are as they are
        checks.due("turn", x.number(1, 0, 2), 0);
        checks.due("below 0", x.degree(1, 2), -2);
        checks.due("below 0", x.degree(1, 3), -1);
        checks.due("a curl", x.degree(3, 2), 0);
        checks.due("two pieces", x.degree(2, 2), -1002);
        checks.due("a BIRTH", x.degree(0, 1), -1000);
        checks.due("a DEATH", x.degree(0, 5), -1000);
        checks.due("a BIRTH of two pieces", x.degree(2, 0), -1000);
        checks.due("event 7", x.degree(0, 7), -1000);
        checks.due("event -1", x.degree(0, -1), -1000);
        checks.due("front 4", x.degree(4, 2), -1000);
        checks.due("front -1", x.degree(-1, 2), -1000);
    }

    private static void degreesModuloTurns() {
        CornerFronts x = Checks.with("b0b1x0x1d1d0", "b0x0d0", "b0b1x0x1d1b0d1d0");
        checks.due("turn", x.number(0, 0, 2), -1);
        checks.due("-2 modulo 2", x.degree(0, 2), 0);
        checks.due("-1 modulo 2", x.degree(0, 3), 1);
        checks.due("-1 modulo 2", x.degree(1, 1), 1);
        // LEVELS: 0, -1, 0 (the zigzag), 1 and 2 (of BIRTH 1), 3, then 4 again
        checks.due("turn", x.number(2, 0, 2), -2);
        checks.due("1 less 3 modulo 4", x.degree(2, 2), 2);
        checks.due("2 less 3 modulo 4", x.degree(2, 3), 3);
    }
}
