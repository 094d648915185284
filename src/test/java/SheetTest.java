/** Promises 6 to 8: sheets of events, and fronts that are read of them. */
public final class SheetTest {
    private static final Checks checks = new Checks("SheetTest");
    private static final int[] TREFOIL = {0, 0, 0, 2, 1, 1, 1, 1, 1, 1, 2, 2, 2, 0};

    public static void main(String[] args) {
        sheetsAreMade();
        cellsAreLaid();
        frontsAreDrawn();
        machineFaults();
        eventsThatCanNotStand();
        limits();
        fullComesLast();
        checks.finish();
    }

    private static void lay(CornerFronts x, int k, int lane, int... cells) {
        checks.due("sheet", x.sheet(k, lane, cells.length), 1);
        for (int i = 0; i < cells.length; i++) {
            checks.due("lay", x.lay(k, i, cells[i]), 1);
        }
    }

    private static void sheetsAreMade() {
        CornerFronts x = new CornerFronts();
        for (int lane = 0; lane < 3; lane++) {
            checks.due("sheet of none", x.sheet(0, lane, 0), 1);
            checks.due("its cells", x.count(1), 0);
            checks.due("sheet of 62", x.sheet(0, lane, 62), 1);
            checks.due("its cells", x.count(1), 62);
        }
        checks.due("sheet of 63", x.sheet(0, 0, 63), CornerFronts.BAD);
        checks.due("sheet of max", x.sheet(0, 0, Integer.MAX_VALUE), CornerFronts.BAD);
        checks.due("sheet of -1", x.sheet(0, 0, -1), -14);
        checks.due("sheet of min", x.sheet(0, 0, Integer.MIN_VALUE), -14);
        checks.due("sheet -1", x.sheet(-1, 0, 1), CornerFronts.BAD);
        checks.due("sheet 4", x.sheet(4, 0, 1), CornerFronts.BAD);
        checks.due("sheet 4 of -1", x.sheet(4, 0, -1), CornerFronts.BAD);
        checks.due("lane -1", x.sheet(0, -1, 1), CornerFronts.BAD);
        checks.due("lane 3", x.sheet(0, 3, 1), CornerFronts.BAD);
        checks.due("lane 3 of -1", x.sheet(0, 3, -1), CornerFronts.BAD);
        checks.due("a refusal leaves the sheet", x.count(1), 62);
        checks.due("sheet 3", x.sheet(3, 1, 5), 1);
        checks.due("count is of sheet 0", x.count(1), 62);
        lay(x, 0, 2, 0, 0, 2, 0);
        checks.due("draw", x.draw(0, 2, 0, 2), 0);
        x.sheet(0, 2, 4);
        checks.due("a new row has cells 0", x.draw(0, 2, 0, 2), -50);
        x.lay(0, 2, 2);
        x.sheet(0, 2, -1);
        x.sheet(0, 2, 63);
        checks.due("a refusal leaves the cells", x.draw(0, 2, 0, 2), 1);
    }

    private static void cellsAreLaid() {
        CornerFronts x = new CornerFronts();
        checks.due("lay(-1)", x.lay(-1, 0, 0), CornerFronts.BAD);
        checks.due("lay(4)", x.lay(4, 0, 0), CornerFronts.BAD);
        checks.due("nothing", x.lay(3, 0, 0), -11);
        checks.due("nothing, no index", x.lay(3, -1, 0), -11);
        x.sheet(3, 0, 2);
        checks.due("index -1", x.lay(3, -1, 0), -12);
        checks.due("index 2", x.lay(3, 2, 0), -12);
        checks.due("index max", x.lay(3, Integer.MAX_VALUE, 0), -12);
        checks.due("index min", x.lay(3, Integer.MIN_VALUE, 0), -12);
        checks.due("index 1", x.lay(3, 1, 0), 1);
        x.sheet(3, 0, 0);
        checks.due("index 0 of none", x.lay(3, 0, 0), -12);
        lowestBits(0, 256, 0);
        lowestBits(0, 512 + 0x7fff0000, 0);
        lowestBits(1, 256, -20);
        lowestBits(1, 65536, 0);
        lowestBits(1, -65536, 0);
        lowestBits(2, 256, -20);
        lowestBits(2, 65536, -20);
        lowestBits(2, Integer.MIN_VALUE, -20);
        lowestBits(0, 255, -20);
        lowestBits(0, -1, -20);
    }

    /** The first cell of b0d0 is laid so: it is 0 if its lowest bits are. */
    private static void lowestBits(int lane, int v, int want) {
        CornerFronts x = new CornerFronts();
        lay(x, 0, lane, v, 0, 2, 0);
        checks.due("draw of lane " + lane + " with " + v, x.draw(0, lane, 0, 2), want);
        lay(x, 1, lane, 0, v, 2, 0);
        checks.due("draw of lane " + lane + " with number " + v, x.draw(1, lane, 0, 2), want == 0 ? 1 : want);
    }

    private static void frontsAreDrawn() {
        for (int lane = 0; lane < 3; lane++) {
            CornerFronts x = new CornerFronts();
            lay(x, lane, lane, TREFOIL);
            checks.due("draw", x.draw(lane, lane, 0, 7), 0);
            checks.dueText("the front", x, 0, "b0b2x1x1x1d2d0");
            checks.due("draw again", x.draw(lane, lane, 0, 7), 1);
            checks.due("unlike", x.unlike(0, 1), CornerFronts.NONE);
        }
        CornerFronts x = new CornerFronts();
        lay(x, 0, 0, 9, 0, 0, 2, 0, 9);
        checks.due("draw from 1", x.draw(0, 0, 1, 2), 0);
        checks.dueText("the front", x, 0, "b0d0");
        checks.due("draw from 2", x.draw(0, 0, 2, 2), -20);
        checks.due("draw from 3", x.draw(0, 0, 3, 1), -20);
        checks.due("draw to the last cell", x.draw(0, 0, 4, 1), -20);
        checks.due("draw from the last cell", x.draw(0, 0, 5, 1), -12);
    }

    private static void machineFaults() {
        CornerFronts x = new CornerFronts();
        checks.due("draw of nothing", x.draw(2, 2, -9, 30), -11);
        checks.due("draw(-1)", x.draw(-1, 0, 0, 1), CornerFronts.BAD);
        checks.due("draw(4)", x.draw(4, 0, 0, 1), CornerFronts.BAD);
        checks.due("lane -1", x.draw(0, -1, 0, 1), CornerFronts.BAD);
        checks.due("lane 3", x.draw(0, 3, 0, 1), CornerFronts.BAD);
        checks.due("n 0", x.draw(0, 0, 0, 0), CornerFronts.BAD);
        checks.due("n -1", x.draw(0, 0, 0, -1), CornerFronts.BAD);
        checks.due("n 31", x.draw(0, 0, 0, 31), CornerFronts.BAD);
        lay(x, 2, 1, TREFOIL);
        checks.due("another lane", x.draw(2, 0, 0, 7), -13);
        checks.due("another lane", x.draw(2, 2, 0, 7), -13);
        checks.due("another lane, no index", x.draw(2, 2, -1, 7), -13);
        checks.due("index -1", x.draw(2, 1, -1, 7), -12);
        checks.due("index min", x.draw(2, 1, Integer.MIN_VALUE, 30), -12);
        checks.due("index max", x.draw(2, 1, Integer.MAX_VALUE, 30), -12);
        checks.due("index max - 1", x.draw(2, 1, Integer.MAX_VALUE - 1, 30), -12);
        checks.due("one too many", x.draw(2, 1, 0, 8), -12);
        checks.due("30 of them", x.draw(2, 1, 0, 30), -12);
        x.sheet(1, 1, 0);
        checks.due("no cells", x.draw(1, 1, 0, 1), -12);
        lay(x, 1, 1, 0, 0, 2);
        checks.due("half an event", x.draw(1, 1, 0, 2), -12);
        checks.due("no fronts", x.count(0), 0);
    }

    private static void refused(int want, int n, int... cells) {
        CornerFronts x = new CornerFronts();
        lay(x, 0, 2, cells);
        checks.due("draw", x.draw(0, 2, 0, n), want);
        checks.due("no fronts", x.count(0), 0);
    }

    private static void eventsThatCanNotStand() {
        refused(-20, 1, 3, 0);
        refused(-20, 1, -1, 0);
        refused(-20, 1, 1, 0);
        refused(-20, 1, 2, 0);
        refused(-20, 1, 0, 1);
        refused(-20, 1, 0, -1);
        refused(-20, 2, 0, Integer.MAX_VALUE, 2, 0);
        refused(-21, 2, 0, 0, 1, Integer.MAX_VALUE);
        refused(-21, 2, 0, 0, 2, Integer.MAX_VALUE);
        refused(-21, 2, 0, 0, 2, Integer.MIN_VALUE);
        refused(-21, 2, 0, 0, 1, 1);
        refused(-21, 2, 0, 0, 2, 1);
        refused(-21, 2, 0, 0, 1, -1);
        refused(-21, 2, 0, 0, 2, -1);
        refused(-21, 2, 0, 0, 0, 3);
        refused(-50, 1, 0, 0);
        refused(-50, 2, 0, 0, 1, 0);
        // the first met: an EVENT that can not stand there ahead of CELLS that are not there
        refused(-21, 3, 0, 0, 3, 0);
        refused(-12, 3, 0, 0, 1, 0);
        refused(-12, 3, 0, 0, 1, 0, 3);
        // the end has no strands, so there is none to die
        refused(-22, 3, 0, 0, 2, 0, 2, 0);
    }

    private static void limits() {
        CornerFronts x = new CornerFronts();
        int[] cells = new int[62];
        for (int i = 0; i < 31; i++) {
            cells[2 * i] = i % 2 == 0 ? 0 : 2;
        }
        lay(x, 0, 0, cells);
        checks.due("30 events", x.draw(0, 0, 0, 30), 0);
        checks.due("30 events", x.about(0, 0), 30);
        checks.due("29 events", x.draw(0, 0, 0, 29), -50);
        checks.due("30 events from 2", x.draw(0, 0, 2, 30), -20);
        checks.due("30 events from 4", x.draw(0, 0, 4, 30), -12);
        int[] crosses = new int[30];
        for (int i = 1; i < 15; i++) {
            crosses[2 * i] = 1;
        }
        crosses[26] = 2;
        lay(x, 1, 1, crosses);
        checks.due("12 crosses", x.draw(1, 1, 0, 14), 1);
        x.lay(1, 26, 1);
        x.lay(1, 28, 2);
        checks.due("13 crosses", x.draw(1, 1, 0, 15), -33);
        int[] births = new int[24];
        for (int i = 5; i < 10; i++) {
            births[2 * i] = 2;
        }
        lay(x, 2, 2, births);
        checks.due("10 strands", x.draw(2, 2, 0, 10), 2);
        checks.due("most strands", x.about(2, 4), 10);
        x.lay(2, 10, 0);
        checks.due("12 strands", x.draw(2, 2, 0, 12), -25);
    }

    private static void fullComesLast() {
        CornerFronts x = Checks.with("b0d0");
        for (int f = 1; f < 8; f++) {
            x.copy(0);
        }
        checks.due("draw of nothing", x.draw(1, 0, 0, 1), -11);
        lay(x, 0, 0, 0, 0, 2, 0, 3, 3);
        checks.due("BAD", x.draw(0, 0, 0, 31), CornerFronts.BAD);
        checks.due("CAST", x.draw(0, 1, 0, 2), -13);
        checks.due("INDEX", x.draw(0, 0, 5, 2), -12);
        checks.due("can not stand", x.draw(0, 0, 0, 3), -22);
        checks.due("left", x.draw(0, 0, 0, 1), -50);
        checks.due("FULL", x.draw(0, 0, 0, 2), CornerFronts.FULL);
        checks.due("8 fronts", x.count(0), 8);
        checks.due("drop", x.drop(), 7);
        checks.due("draw", x.draw(0, 0, 0, 2), 7);
    }
}
