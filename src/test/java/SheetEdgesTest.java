import java.util.Arrays;
import java.util.function.ToIntFunction;

/** The boundary sentences of promises 6 to 8 and of the terms of the sheets, one test each. */
public final class SheetEdgesTest {
    private static final Checks checks = new Checks("SheetEdgesTest");
    private static final int BAD = CornerFronts.BAD;
    private static final int FULL = CornerFronts.FULL;
    private static final int NULL = -11, INDEX = -12, CAST = -13, SIZE = -14;
    private static final int LEFT = -50;
    private static final int MIN = Integer.MIN_VALUE;
    private static final int MAX = Integer.MAX_VALUE;

    public static void main(String[] args) {
        sheetsOfNoSuchNumber();
        lanesOfNoSuchNumber();
        sizesBelow0();
        sizesUpTo62();
        sizesAbove62();
        newRowsHaveCells0();
        layOfNoSheet();
        layOfNothing();
        layBesideTheCells();
        layKeepsTheLowestBits();
        drawOfBadNumbers();
        drawOfNothing();
        drawOfAnotherLane();
        drawBesideTheCells();
        drawEventByEvent();
        drawOfNoneOfThese();
        drawOfNoSuchStrands();
        drawOfTooMany();
        drawWithStrandsLeft();
        drawOf30Events();
        drawWhenFull();
        checks.finish();
    }

    private static void refused(String what, int want, ToIntFunction<CornerFronts> call) {
        Room.leaves(checks, what, want, call, "b0d0", "b0x0d0");
    }

    private static CornerFronts laid(int lane, int... cells) {
        CornerFronts x = new CornerFronts();
        x.sheet(0, lane, cells.length);
        for (int i = 0; i < cells.length; i++) {
            x.lay(0, i, cells[i]);
        }
        return x;
    }

    // ---- 6

    private static void sheetsOfNoSuchNumber() {
        for (int k : new int[] {MIN, -1, 4, MAX}) {
            refused("6 sheet " + k, BAD, x -> x.sheet(k, 0, 5));
            refused("6 sheet " + k + " below 0", BAD, x -> x.sheet(k, 0, -1));
        }
        CornerFronts x = new CornerFronts();
        for (int k = 0; k < 4; k++) {
            checks.due("6 sheet " + k, x.sheet(k, 0, k + 1), 1);
        }
        for (int k = 0; k < 4; k++) {
            checks.due("6 the last cell of sheet " + k, x.lay(k, k, 0), 1);
            checks.due("6 behind it", x.lay(k, k + 1, 0), INDEX);
        }
    }

    private static void lanesOfNoSuchNumber() {
        for (int lane : new int[] {MIN, -1, 3, MAX}) {
            refused("6 lane " + lane, BAD, x -> x.sheet(0, lane, 5));
            refused("6 lane " + lane + " below 0", BAD, x -> x.sheet(0, lane, -1));
            refused("6 lane " + lane + " of nothing", BAD, x -> x.sheet(Room.NOTHING, lane, 5));
        }
    }

    private static void sizesBelow0() {
        for (int n : new int[] {-1, -2, MIN}) {
            for (int lane = 0; lane < 3; lane++) {
                int as = lane;
                refused("6 size " + n, SIZE, x -> x.sheet(0, as, n));
                refused("6 size " + n + " of nothing", SIZE, x -> x.sheet(Room.NOTHING, as, n));
            }
        }
    }

    private static void sizesUpTo62() {
        for (int lane = 0; lane < 3; lane++) {
            CornerFronts x = new CornerFronts();
            for (int n = 0; n <= 62; n++) {
                checks.due("6 size " + n, x.sheet(0, lane, n), 1);
                checks.due("6 cells", x.count(1), n);
                checks.due("6 behind the last cell", x.lay(0, n, 0), INDEX);
                checks.due("6 the last cell", x.lay(0, n - 1, 0), n == 0 ? INDEX : 1);
            }
        }
    }

    private static void sizesAbove62() {
        for (int n : new int[] {63, 64, MAX}) {
            refused("6 size " + n, BAD, x -> x.sheet(0, 0, n));
            refused("6 size " + n + " of nothing", BAD, x -> x.sheet(Room.NOTHING, 2, n));
        }
    }

    /** All 62 CELLS are laid, then there is a new row: each of them tells of itself as the only one. */
    private static void newRowsHaveCells0() {
        for (int cell = 0; cell < 62; cell++) {
            CornerFronts x = new CornerFronts();
            x.sheet(0, 1, 62);
            x.lay(0, cell, 1);
            int from = cell - cell % 2;
            checks.due("6 a cell that is not 0", x.draw(0, 1, from, 1), -20);
            x.sheet(0, 1, 62);
            checks.due("6 it is 0 then", x.draw(0, 1, from, 1), LEFT);
            x.lay(0, cell, 1);
            x.sheet(0, 2, 0);
            x.sheet(0, 2, 62);
            checks.due("6 it is 0 then, of another lane", x.draw(0, 2, from, 1), LEFT);
        }
    }

    // ---- 7

    private static void layOfNoSheet() {
        for (int k : new int[] {MIN, -1, 4, MAX}) {
            refused("7 sheet " + k, BAD, x -> x.lay(k, 0, 7));
            refused("7 sheet " + k + ", no cell", BAD, x -> x.lay(k, -1, 7));
        }
    }

    private static void layOfNothing() {
        for (int i : new int[] {MIN, -1, 0, 61, MAX}) {
            refused("7 nothing", NULL, x -> x.lay(Room.NOTHING, i, 7));
        }
        for (int k = 0; k < 4; k++) {
            CornerFronts x = new CornerFronts();
            checks.due("7 nothing at first", x.lay(k, 0, 0), NULL);
            x.sheet(k, 0, 0);
            checks.due("7 no cells are not nothing", x.lay(k, 0, 0), INDEX);
        }
    }

    private static void layBesideTheCells() {
        for (int k = 0; k < 3; k++) {
            int of = k;
            for (int i : new int[] {MIN, -1, Room.CELLS.length, 61, 62, MAX}) {
                refused("7 cell " + i, INDEX, x -> x.lay(of, i, 7));
            }
            Room room = new Room(checks, 0, "b0d0");
            checks.due("7 the first cell", room.x.lay(k, 0, 0), 1);
            checks.due("7 the last cell", room.x.lay(k, Room.CELLS.length - 1, 0), 1);
        }
    }

    /** The third CELL is to be 2, a DEATH, of b0d0. */
    private static void lowestBits(int lane, int v, boolean isTwo) {
        CornerFronts x = laid(lane, 0, 0, v, 0);
        checks.due("7 " + v + " of lane " + lane, x.draw(0, lane, 0, 2), isTwo ? 0 : -21);
        CornerFronts y = laid(lane, 0, 0, 0, v, 2, 0, 2, 0);
        checks.due("7 number " + v + " of lane " + lane, y.draw(0, lane, 0, 4), isTwo ? 0 : -21);
    }

    private static void layKeepsTheLowestBits() {
        int[] offsets = {1 << 8, -(1 << 8), 1 << 15, 1 << 16, -(1 << 16), 1 << 24, 1 << 30, MIN, 0x7fffff00};
        for (int offset : offsets) {
            lowestBits(0, 2 + offset, true);
            lowestBits(1, 2 + offset, (offset & 0xffff) == 0);
            lowestBits(2, 2 + offset, false);
        }
        for (int lane = 0; lane < 3; lane++) {
            lowestBits(lane, 2, true);
            lowestBits(lane, 2 + 128, false);
            lowestBits(lane, 2 - 128, false);
        }
        lowestBits(1, 2 + (1 << 7), false);
        lowestBits(1, 2 - (1 << 15), false);
    }

    // ---- 8

    private static void drawOfBadNumbers() {
        for (int bad : new int[] {MIN, -1, 4, MAX}) {
            refused("8 sheet " + bad, BAD, x -> x.draw(bad, 0, 0, 5));
        }
        for (int bad : new int[] {MIN, -1, 3, MAX}) {
            refused("8 lane " + bad, BAD, x -> x.draw(0, bad, 0, 5));
            refused("8 lane " + bad + " of nothing", BAD, x -> x.draw(Room.NOTHING, bad, 0, 5));
        }
        for (int bad : new int[] {MIN, -1, 0, 31, MAX}) {
            refused("8 events " + bad, BAD, x -> x.draw(0, 0, 0, bad));
            refused("8 events " + bad + " of nothing", BAD, x -> x.draw(Room.NOTHING, 0, 0, bad));
            refused("8 events " + bad + " of another lane", BAD, x -> x.draw(0, 1, 0, bad));
        }
    }

    private static void drawOfNothing() {
        for (int lane = 0; lane < 3; lane++) {
            int as = lane;
            refused("8 nothing", NULL, x -> x.draw(Room.NOTHING, as, 0, 5));
            refused("8 nothing, no cells", NULL, x -> x.draw(Room.NOTHING, as, -1, 30));
        }
    }

    private static void drawOfAnotherLane() {
        for (int k = 0; k < 3; k++) {
            for (int lane = 0; lane < 3; lane++) {
                int of = k;
                int as = lane;
                if (k != lane) {
                    refused("8 another lane", CAST, x -> x.draw(of, as, 0, 5));
                    refused("8 another lane, no cells", CAST, x -> x.draw(of, as, -1, 5));
                    CornerFronts x = new CornerFronts();
                    x.sheet(0, k, 0);
                    checks.due("8 another lane of no cells", x.draw(0, lane, 0, 1), CAST);
                }
            }
        }
    }

    private static void drawBesideTheCells() {
        int cells = Room.CELLS.length;
        for (int lane = 0; lane < 3; lane++) {
            int k = lane;
            for (int f : new int[] {MIN, MIN + 1, -2, -1, cells - 1, cells, 61, 62, MAX - 1, MAX}) {
                refused("8 from cell " + f, INDEX, x -> x.draw(k, k, f, 1));
                refused("8 from cell " + f, INDEX, x -> x.draw(k, k, f, 30));
            }
            CornerFronts x = new CornerFronts();
            x.sheet(0, lane, 0);
            checks.due("8 no cells", x.draw(0, lane, 0, 1), INDEX);
            x.sheet(0, lane, 1);
            checks.due("8 one cell", x.draw(0, lane, 0, 1), INDEX);
            x.sheet(0, lane, 2);
            checks.due("8 two cells", x.draw(0, lane, 0, 1), LEFT);
        }
        CornerFronts x = laid(0, 9, 0, 0, 2, 0, 9);
        checks.due("8 from an odd cell", x.draw(0, 0, 1, 2), 0);
        checks.dueText("8 from an odd cell", x, 0, "b0d0");
    }

    /** The CELLS of an EVENT are looked for when the EVENTS ahead of it stand. */
    private static void drawEventByEvent() {
        checks.due("8 cells that are not there", laid(2, 0, 0, 1, 0).draw(0, 2, 0, 3), INDEX);
        checks.due("8 half an event", laid(2, 0, 0, 1, 0, 2).draw(0, 2, 0, 3), INDEX);
        checks.due("8 half an event that is none", laid(2, 0, 0, 1, 0, 3).draw(0, 2, 0, 3), INDEX);
        checks.due("8 the event ahead of them", laid(2, 0, 0, 1, 1).draw(0, 2, 0, 3), -21);
        checks.due("8 the first of two", laid(2, 0, 1, 3, 0).draw(0, 2, 0, 2), -20);
        checks.due("8 they are not asked for", laid(2, 0, 0, 2, 0, 3).draw(0, 2, 0, 2), 0);
        checks.due("8 strands left behind cells", laid(2, 0, 0, 0, 0).draw(0, 2, 0, 3), INDEX);
    }

    private static void drawOfNoneOfThese() {
        for (int kind : new int[] {MIN, -1, 3, 4, MAX}) {
            checks.due("8 kind " + kind, laid(2, kind, 0, 2, 0).draw(0, 2, 0, 2), -20);
            checks.due("8 kind " + kind, laid(2, 0, 0, kind, 0).draw(0, 2, 0, 2), -21);
            checks.due("8 kind " + kind, laid(2, 0, 0, 1, 0, kind, 0).draw(0, 2, 0, 3), -22);
        }
    }

    private static void drawOfNoSuchStrands() {
        for (int pairs = 0; pairs <= 4; pairs++) {
            int strands = 2 * pairs;
            for (int k : new int[] {MIN, -1, strands + 1, 99, MAX - 1, MAX}) {
                checks.due("8 b" + k, drawn(pairs, 0, k, pairs + 1), -20 - pairs);
            }
            checks.due("8 b" + strands, drawn(pairs, 0, strands, pairs + 1), 0);
            checks.due("8 b0", drawn(pairs, 0, 0, pairs + 1), 0);
            for (int k : new int[] {MIN, -1, strands - 1, strands, 99, MAX - 1, MAX}) {
                checks.due("8 x" + k, drawn(pairs, 1, k, pairs), -20 - pairs);
                checks.due("8 d" + k, drawn(pairs, 2, k, pairs - 1), -20 - pairs);
            }
            if (pairs > 0) {
                checks.due("8 x", drawn(pairs, 1, strands - 2, pairs), 0);
                checks.due("8 d", drawn(pairs, 2, strands - 2, pairs - 1), 0);
            }
        }
    }

    /** BIRTHS 0, then one EVENT, then DEATHS 0. */
    private static int drawn(int births, int kind, int k, int deaths) {
        int events = births + 1 + Math.max(deaths, 0);
        int[] cells = new int[2 * events];
        cells[2 * births] = kind;
        cells[2 * births + 1] = k;
        for (int i = births + 1; i < events; i++) {
            cells[2 * i] = 2;
        }
        return laid(2, cells).draw(0, 2, 0, events);
    }

    private static void drawOfTooMany() {
        checks.due("8 10 strands", drawn(4, 0, 8, 5), 0);
        checks.due("8 12 strands", drawn(5, 0, 0, 6), -25);
        checks.due("8 12 strands", drawn(5, 0, 10, 6), -25);
        int[] crosses = new int[2 * 15];
        for (int i = 1; i < 15; i++) {
            crosses[2 * i] = i <= 12 ? 1 : 2;
        }
        checks.due("8 12 crosses", laid(0, crosses).draw(0, 0, 0, 14), 0);
        crosses[26] = 1;
        checks.due("8 13 crosses", laid(0, crosses).draw(0, 0, 0, 15), -33);
    }

    private static void drawWithStrandsLeft() {
        refused("8 left", LEFT, x -> x.draw(0, 0, 0, 1));
        refused("8 left", LEFT, x -> x.draw(1, 1, 0, 4));
        checks.due("8 left behind a cross", laid(2, 0, 0, 1, 0).draw(0, 2, 0, 2), LEFT);
        checks.due("8 ten of them", drawn(4, 0, 0, 0), LEFT);
    }

    /** 62 CELLS: b0d0 fifteen times and one CELL more at either end. */
    private static void drawOf30Events() {
        int[] cells = new int[62];
        for (int i = 0; i < 30; i++) {
            cells[1 + 2 * i] = i % 2 == 0 ? 0 : 2;
        }
        CornerFronts x = laid(1, cells);
        checks.due("8 30 events", x.draw(0, 1, 1, 30), 0);
        checks.dueText("8 30 events", x, 0, "b0d0".repeat(15));
        checks.due("8 31 events", x.draw(0, 1, 1, 31), BAD);
        checks.due("8 29 events", x.draw(0, 1, 1, 29), LEFT);
        x.lay(0, 60, 1);
        checks.due("8 the last event", x.draw(0, 1, 1, 30), -49);
        x.lay(0, 60, 0);
        x.lay(0, 59, 0);
        checks.due("8 left behind 30", x.draw(0, 1, 1, 30), LEFT);
        x.lay(0, 59, 3);
        checks.due("8 the last event", x.draw(0, 1, 1, 30), -49);
        checks.due("8 fronts", x.count(0), 1);
        int[] shifted = new int[62];
        for (int i = 0; i < 30; i++) {
            shifted[2 + 2 * i] = i % 2 == 0 ? 0 : 2;
        }
        checks.due("8 up to the last cell", laid(0, shifted).draw(0, 0, 2, 30), 0);
        int[] short61 = Arrays.copyOf(shifted, 61);
        checks.due("8 one cell short", laid(0, short61).draw(0, 0, 2, 30), INDEX);
    }

    /** FULL comes behind all that the SHEET may have. */
    private static void drawWhenFull() {
        refusedWithEight("8 full", FULL, x -> x.draw(0, 0, 0, 5));
        refusedWithEight("8 full", FULL, x -> x.draw(2, 2, 0, 5));
        refusedWithEight("8 full, BAD", BAD, x -> x.draw(0, 0, 0, 31));
        refusedWithEight("8 full, NULL", NULL, x -> x.draw(Room.NOTHING, 0, 0, 5));
        refusedWithEight("8 full, CAST", CAST, x -> x.draw(0, 1, 0, 5));
        refusedWithEight("8 full, INDEX", INDEX, x -> x.draw(0, 0, -1, 5));
        refusedWithEight("8 full, no event", -20, x -> x.draw(0, 0, 4, 1));
        refusedWithEight("8 full, left", LEFT, x -> x.draw(0, 0, 0, 4));
        CornerFronts x = laid(0, 0, 0, 2, 0);
        for (int f = 0; f < 8; f++) {
            checks.due("8 front " + f, x.draw(0, 0, 0, 2), f);
        }
        checks.due("8 the ninth", x.draw(0, 0, 0, 2), FULL);
        x.drop();
        checks.due("8 the eighth again", x.draw(0, 0, 0, 2), 7);
    }

    private static void refusedWithEight(String what, int want, ToIntFunction<CornerFronts> call) {
        Room.leavesWithEight(checks, what, want, call, "b0d0");
    }
}
