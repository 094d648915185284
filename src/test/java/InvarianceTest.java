import java.util.Random;

/**
 * The numbers that moves leave: swaps, slides, curls and pushes keep TB, TURN and, for each
 * number of switches less deaths, the rulings. These are theorems on fronts, not words of the
 * document, so they test that its terms are understood.
 */
public final class InvarianceTest {
    private static final Checks checks = new Checks("InvarianceTest");
    private static final String[] FRONTS = {
        "b0d0", "b0b2x1x1x1d2d0", "b0b1x0x1d1b1d0d0", "b0b2x1x1x1d2b2x1x1x1d2d0", "b0b1d0d0",
        "b0b2x1x1d2d0", "b0b1x0x0d1d0", "b0b2b4x1x1x3x3d4d2d0", "b0b2x1x1x1x1d2d0"};

    public static void main(String[] args) {
        for (String text : FRONTS) {
            for (int seed = 0; seed < 60; seed++) {
                wander(text, new Random(seed));
            }
        }
        zigzags();
        checks.finish();
    }

    private static void wander(String text, Random random) {
        CornerFronts x = Checks.with(text);
        int pieces = x.about(0, 3);
        String before = told(x, pieces);
        int moved = 0;
        for (int call = 0; call < 150; call++) {
            moved += step(x, random) > 0 ? 1 : 0;
        }
        checks.holds("there was a move from " + text, moved > 0 || text.length() <= 4);
        checks.due("pieces of " + text, x.about(0, 3), pieces);
        String after = told(x, pieces);
        checks.holds(text + " tells " + before + " as " + Checks.text(x, 0) + " tells " + after, before.equals(after));
    }

    private static int step(CornerFronts x, Random random) {
        int i = random.nextInt(x.about(0, 0));
        switch (random.nextInt(8)) {
            case 0:
                return x.push(0, random.nextInt(2), i);
            case 1:
                return x.add(0, random.nextInt(2), i, random.nextInt(10));
            default:
                return x.move(0, random.nextInt(4), i);
        }
    }

    private static String told(CornerFronts x, int pieces) {
        StringBuilder b = new StringBuilder();
        int deaths = x.about(0, 2);
        for (int sort = 0; sort < (pieces == 1 ? 3 : 1); sort++) {
            for (int less = -16; less <= 12; less++) {
                int n = less + deaths;
                b.append(n < 0 || n > 12 ? 0 : x.rulings(0, sort, n)).append(less == 12 ? "; " : " ");
            }
        }
        if (pieces == 1) {
            // which way round it is gone along depends on its first BIRTH
            b.append("tb ").append(x.number(0, 0, 1)).append(" turn ").append(Math.abs(x.number(0, 0, 2)));
        }
        return b.toString();
    }

    /** A zigzag takes one of TB, one more or less of TURN, and all the rulings. */
    private static void zigzags() {
        for (String text : FRONTS) {
            for (int kind = 2; kind < 4; kind++) {
                CornerFronts x = Checks.with(text);
                int tb = x.number(0, 0, 1);
                int turn = x.number(0, 0, 2);
                x.add(0, kind, 1, 0);
                checks.due("tb of " + text, x.number(0, 0, 1), tb - 1);
                checks.due("turn of " + text, x.number(0, 0, 2), turn + (kind == 2 ? 1 : -1));
                checks.due("rulings of " + text, x.rulings(0, 0, -1), 0);
                x.move(0, 4, 1);
                checks.dueText("straightened", x, 0, text);
            }
        }
    }
}
