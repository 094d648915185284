import java.util.function.ToIntFunction;

/**
 * What a call that is done, or one without a front that is refused, leaves as it was. Each is
 * made in a room of its own with two fronts; what it tells to change is looked at, or put back
 * by a call of the same kind, and then all else must be as before.
 */
public final class EffectsTest {
    private static final Checks checks = new Checks("EffectsTest");
    private static final String TREFOIL = "b0b2x1x1x1d2d0";
    /** Here every kind of move, of push and of what is added can be done somewhere. */
    private static final String MIXED = "b0b1x0d1b1x0x1x0b1d0d1d0";

    public static void main(String[] args) {
        theTape();
        front();
        theSheets();
        draw();
        copyAndDrop();
        looks();
        moves();
        pulls();
        adds();
        pushes();
        joins();
        checks.finish();
    }

    private static void done(String what, int want, ToIntFunction<CornerFronts> call, String... textsThen) {
        new Room(checks, 0, TREFOIL, MIXED).changes(what, want, call, textsThen);
    }

    private static void looked(String what, int want, ToIntFunction<CornerFronts> call) {
        done(what, want, call, TREFOIL, MIXED);
    }

    private static int last(int... answers) {
        return answers[answers.length - 1];
    }

    private static void theTape() {
        int bytes = Room.TAPE.length();
        looked("2 feed", bytes, x -> last(x.feed(-1), x.end(bytes), x.count(2)));
        // the bytes that end() takes come back by one feed()
        long taken = Checks.eightBytes(Room.TAPE, bytes - 8);
        looked("3 end", bytes, x -> last(x.end(bytes - 8), x.feed(taken)));
        looked("3 end that keeps all", bytes, x -> x.end(bytes));
        looked("3 end above all", CornerFronts.BAD, x -> x.end(bytes + 1));
        looked("3 end below 0", CornerFronts.BAD, x -> x.end(-1));
        looked("2 feed of a tape that is full", CornerFronts.FULL, x -> {
            for (int fed = bytes + 8; fed <= 120; fed += 8) {
                checks.due("2 there is room", x.feed(-1), fed);
            }
            int refused = x.feed(-1);
            checks.due("2 its bytes stay", x.end(bytes), 119);
            return refused;
        });
    }

    private static void front() {
        done("4 front", 2, x -> {
            int told = x.front();
            checks.due("4 the tape is empty", x.count(2), 0);
            checks.due("4 there is no fault", x.fault(), 0);
            putTapeBack(x);
            return told;
        }, TREFOIL, MIXED, Room.TOLD);
        looked("4 front of a fault", -11, x -> {
            x.end(1);
            int told = x.front();
            checks.due("4 the tape is empty", x.count(2), 0);
            checks.due("4 its fault", x.fault(), 2);
            putTapeBack(x);
            return told;
        });
        looked("5 fault", Room.FAULT, x -> x.fault());
    }

    private static void putTapeBack(CornerFronts x) {
        Room.meetFault(x);
        Checks.tape(x, Room.TAPE);
    }

    private static void theSheets() {
        for (int k = 0; k < 3; k++) {
            int of = k;
            looked("6 sheet " + k, 1, x -> {
                int made = x.sheet(of, of, Room.CELLS.length);
                checks.due("6 its cells are 0", x.draw(of, of, 0, 5), -50);
                for (int i = 0; i < Room.CELLS.length; i++) {
                    x.lay(of, i, Room.CELLS[i]);
                }
                return made;
            });
            for (int i = 0; i < Room.CELLS.length; i++) {
                int cell = i;
                looked("7 lay " + k, 1, x -> last(x.lay(of, cell, 77), x.lay(of, cell, Room.CELLS[cell])));
            }
        }
    }

    private static void draw() {
        for (int k = 0; k < 3; k++) {
            int of = k;
            done("8 draw of " + k, 2, x -> x.draw(of, of, 0, 5), TREFOIL, MIXED, Room.DRAWN);
        }
        new Room(checks, 5, TREFOIL, MIXED).changes("8 the eighth", 7, x -> x.draw(1, 1, 0, 5),
            TREFOIL, MIXED, TREFOIL, TREFOIL, TREFOIL, TREFOIL, TREFOIL, Room.DRAWN);
    }

    private static void copyAndDrop() {
        done("9 copy", 2, x -> x.copy(0), TREFOIL, MIXED, TREFOIL);
        done("9 copy", 2, x -> x.copy(1), TREFOIL, MIXED, MIXED);
        done("10 drop", 1, x -> x.drop(), TREFOIL);
        done("10 drop of all", 0, x -> last(x.drop(), x.drop()));
        done("10 drop of none", CornerFronts.NONE, x -> last(x.drop(), x.drop(), x.drop()));
    }

    private static void looks() {
        for (int what = 0; what < 3; what++) {
            int of = what;
            looked("11 event", new int[] {0, 2, 2}[what], x -> x.event(0, 1, of));
            looked("25 count", new int[] {2, Room.CELLS.length, Room.TAPE.length()}[what], x -> x.count(of));
            looked("18 rulings", 3, x -> x.rulings(0, of, -1));
            looked("19 first", 1, x -> x.first(0, of, 2));
        }
        for (int what = 0; what < 6; what++) {
            int of = what;
            looked("12 about", new int[] {7, 3, 2, 1, 4, 3}[what], x -> x.about(0, of));
        }
        for (int what = 0; what < 5; what++) {
            int of = what;
            looked("14 number", new int[] {3, 1, 0, 4, 0}[what], x -> x.number(0, 0, of));
        }
        looked("25 count of no such", CornerFronts.BAD, x -> x.count(3));
        looked("25 count of no such", CornerFronts.BAD, x -> x.count(-1));
        looked("13 piece", 0, x -> x.piece(0, 1, 1));
        looked("15 link", -1000, x -> x.link(0, 0, 0));
        looked("16 sign", 1, x -> x.sign(0, 2));
        looked("17 degree", 0, x -> x.degree(0, 2));
        looked("24 unlike", 1, x -> x.unlike(0, 1));
        looked("24 unlike", CornerFronts.NONE, x -> x.unlike(1, 1));
        new Room(checks, 0, "b0b2x1x1d2d0").changes("15 link", -1, x -> x.link(0, 0, 1), "b0b2x1x1d2d0");
    }

    private static void moves() {
        done("20 swap", 12, x -> x.move(1, 0, 3), TREFOIL, "b0b1x0b3d1x0x1x0b1d0d1d0");
        done("20 slide", 12, x -> x.move(1, 1, 5), TREFOIL, "b0b1x0d1b1x1x0x1b1d0d1d0");
        done("20 uncurl", 9, x -> x.move(1, 2, 1), TREFOIL, "b0b1x0x1x0b1d0d1d0");
        done("20 pull", 10, x -> x.move(1, 3, 4), TREFOIL, "b0b1x0d1b0x0b1d0d1d0");
        done("20 straighten", 10, x -> x.move(1, 4, 8), TREFOIL, "b0b1x0d1b1x0x1x0d1d0");
    }

    /** The four kinds of it, ahead of another front. */
    private static void pulls() {
        String[] before = {"b0b0x1x0d0d0", "b0b1x0x1d0d0", "b0b0x0x1d0d0", "b0b0x1x0d1d0"};
        String[] then = {"b0b1d0d0", "b0b0d0d0", "b0b0d1d0", "b0b0d0d0"};
        int[] at = {1, 1, 2, 2};
        for (int n = 0; n < 4; n++) {
            int i = at[n];
            new Room(checks, 0, before[n], TREFOIL).changes("20 pull", 4, x -> x.move(0, 3, i), then[n], TREFOIL);
        }
    }

    private static void adds() {
        String[] put = {"b2x1d2", "b1x2d1", "b2d1", "b1d2"};
        for (int kind = 0; kind < 4; kind++) {
            int of = kind;
            int events = 7 + put[kind].length() / 2;
            done("21 add", events, x -> x.add(0, of, 2, 1), "b0b2" + put[kind] + "x1x1x1d2d0", MIXED);
        }
    }

    private static void pushes() {
        done("22 push of a birth", 9, x -> x.push(0, 0, 1), "b0b1x2x1x1x1x1d2d0", MIXED);
        done("22 push of a birth", 14, x -> x.push(1, 1, 1), TREFOIL, "b0b2x1x2x0d1b1x0x1x0b1d0d1d0");
        done("22 push of a death", 9, x -> x.push(0, 0, 5), "b0b2x1x1x1x1x2d1d0", MIXED);
        done("22 push of a death", 14, x -> x.push(1, 1, 9), TREFOIL, "b0b1x0d1b1x0x1x0b1x1x0d1d1d0");
    }

    private static void joins() {
        done("23 join", 2, x -> x.join(0, 1), TREFOIL, MIXED, "b0b2x1x1x1d2b1x0d1b1x0x1x0b1d0d1d0");
        done("23 join", 2, x -> x.join(0, 0), TREFOIL, MIXED, "b0b2x1x1x1d2b2x1x1x1d2d0");
    }
}
