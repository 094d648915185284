/** Promises 1 to 5: a new object, the tape, fronts told in a text, their faults. */
public final class TapeTest {
    private static final Checks checks = new Checks("TapeTest");

    public static void main(String[] args) {
        aNewObject();
        feedTakesEightBytes();
        endKeepsTheFirst();
        frontsAreTold();
        faultsOfTokens();
        faultsOfPlaces();
        faultsOfStrands();
        faultsOfRoom();
        theFirstFaultIsMet();
        fullFrontsLeaveTheTape();
        checks.finish();
    }

    private static void aNewObject() {
        CornerFronts x = new CornerFronts();
        checks.due("count(0)", x.count(0), 0);
        checks.due("count(1)", x.count(1), CornerFronts.NONE);
        checks.due("count(2)", x.count(2), 0);
        checks.due("fault()", x.fault(), 0);
        checks.due("drop()", x.drop(), CornerFronts.NONE);
        checks.due("about(0, 0)", x.about(0, 0), CornerFronts.BAD);
        for (int k = 0; k < 4; k++) {
            checks.due("lay of nothing", x.lay(k, 0, 0), -11);
            checks.due("draw of nothing", x.draw(k, 0, 0, 1), -11);
        }
    }

    private static void feedTakesEightBytes() {
        CornerFronts x = new CornerFronts();
        for (int n = 8; n <= 120; n += 8) {
            checks.due("feed to " + n, x.feed(0x2020202020202020L), n);
        }
        checks.due("feed above 120", x.feed(0), CornerFronts.FULL);
        checks.due("bytes after FULL", x.count(2), 120);
        checks.due("end(113)", x.end(113), 120);
        checks.due("feed to 121", x.feed(0), CornerFronts.FULL);
        checks.due("bytes after FULL", x.count(2), 113);
        checks.due("end(112)", x.end(112), 113);
        // the last of 112 blanks, then b0d0: the bytes come behind, the highest first
        checks.due("feed to 120", x.feed(0x6230643020202020L), 120);
        checks.due("front of 120 bytes", x.front(), 0);
        checks.dueText("the front", x, 0, "b0d0");
        checks.due("tape is empty then", x.count(2), 0);
        checks.due("feed of negative bytes", x.feed(-1L), 8);
        checks.due("front of negative bytes", x.front(), -10);
        checks.due("its fault", x.fault(), 1);
    }

    private static void endKeepsTheFirst() {
        CornerFronts x = new CornerFronts();
        checks.due("end(0) of none", x.end(0), 0);
        checks.due("end(1) of none", x.end(1), CornerFronts.BAD);
        checks.due("end(-1)", x.end(-1), CornerFronts.BAD);
        x.feed(Checks.eightBytes("b0d0b0d0", 0));
        checks.due("end(9) of 8", x.end(9), CornerFronts.BAD);
        checks.due("end(min)", x.end(Integer.MIN_VALUE), CornerFronts.BAD);
        checks.due("end(max)", x.end(Integer.MAX_VALUE), CornerFronts.BAD);
        checks.due("bytes are left", x.count(2), 8);
        checks.due("end(8) of 8", x.end(8), 8);
        checks.due("end(4) of 8", x.end(4), 8);
        checks.due("bytes", x.count(2), 4);
        checks.due("end(5) of 4", x.end(5), CornerFronts.BAD);
        x.feed(Checks.eightBytes("b0x0d0", 0));
        checks.due("bytes", x.count(2), 12);
        checks.due("front()", x.front(), 0);
        checks.dueText("the front", x, 0, "b0d0b0x0d0");
    }

    private static void told(String text, String events) {
        CornerFronts x = new CornerFronts();
        checks.due("front of '" + text + "'", Checks.front(x, text), 0);
        checks.due("fault of '" + text + "'", x.fault(), 0);
        checks.due("bytes after '" + text + "'", x.count(2), 0);
        checks.dueText("'" + text + "'", x, 0, events);
    }

    private static void frontsAreTold() {
        told("b0d0", "b0d0");
        told("  b  0   d 0  ", "b0d0");
        told("b00d00", "b0d0");
        told("b0 b02 x01 d0 d0", "b0b2x1d0d0");
        told("b0b1b2b3b4d4d3d2d1d0", "b0b1b2b3b4d4d3d2d1d0");
        told("b0b2b4b6b8d8d6d4d2d0", "b0b2b4b6b8d8d6d4d2d0");
        told(Checks.times("b0d0", 15), Checks.times("b0d0", 15));
        told("b0" + Checks.times("x0", 12) + "d0", "b0" + Checks.times("x0", 12) + "d0");
        told(Checks.times(" b 0 d 0", 15), Checks.times("b0d0", 15));
        CornerFronts x = new CornerFronts();
        for (int f = 0; f < 8; f++) {
            checks.due("front number", Checks.front(x, "b0d0"), f);
        }
        checks.due("count(0)", x.count(0), 8);
    }

    private static void faulty(String text, int place, int fault) {
        CornerFronts x = new CornerFronts();
        checks.due("front of '" + text + "'", Checks.front(x, text), -10 - place);
        checks.due("fault of '" + text + "'", x.fault(), fault);
        checks.due("bytes after '" + text + "'", x.count(2), 0);
        checks.due("fronts after '" + text + "'", x.count(0), 0);
        checks.due("front then", Checks.front(x, "b0d0"), 0);
        checks.due("fault then", x.fault(), 0);
    }

    private static void faultsOfTokens() {
        faulty("c0", 0, 1);
        faulty("B0d0", 0, 1);
        faulty("b0\td0", 2, 1);
        faulty("b0,d0", 2, 1);
        faulty("b-1", 1, 1);
        faulty("b/", 1, 1);
        faulty("b:", 1, 1);
        faulty("b000d0", 1, 1);
        faulty("b 000", 2, 1);
        faulty("b0 123", 3, 1);
        faulty("b0d0000000000", 3, 1);
        faulty("b0d0\u0000", 4, 1);
        faulty("b0d0\u00a0", 4, 1);
        faulty("b0d0 \u00ff", 5, 1);
    }

    private static void faultsOfPlaces() {
        faulty("", 0, 2);
        faulty("     ", 5, 2);
        faulty("0", 0, 2);
        faulty("  12", 2, 2);
        faulty("b", 1, 2);
        faulty("b   ", 4, 2);
        faulty("bb0", 1, 2);
        faulty("b d0", 2, 2);
        faulty("b0 0", 3, 2);
        faulty("b0d0 00", 5, 2);
        faulty("b0", 2, 2);
        faulty("b0  ", 4, 2);
        faulty("b0b0d0", 6, 2);
        faulty("b0d", 3, 2);
        faulty("b0d0 x ", 7, 2);
    }

    private static void faultsOfStrands() {
        faulty("b1", 1, 3);
        faulty("b 99", 2, 3);
        faulty("x0", 1, 3);
        faulty("d0", 1, 3);
        faulty("b0x1", 3, 3);
        faulty("b0d1", 3, 3);
        faulty("b0b3", 3, 3);
        faulty("b0b2x3", 5, 3);
        faulty("b0b2d3", 5, 3);
        faulty("b0d0 d 0", 7, 3);
        faulty("b0d0 b 1", 7, 3);
    }

    private static void faultsOfRoom() {
        faulty(Checks.times("b0d0", 15) + "b0", 60, 4);
        faulty(Checks.times("b0d0", 15) + "  b0", 62, 4);
        faulty(Checks.times("b0d0", 15) + "x", 60, 4);
        faulty("b0" + Checks.times("x0", 13), 26, 4);
        faulty("b0" + Checks.times("x0", 12) + " x", 27, 4);
        faulty("b0b0b0b0b0b0", 10, 4);
        faulty("b0b0b0b0b0 b", 11, 4);
    }

    private static void theFirstFaultIsMet() {
        // a LETTER without room, ahead of its NUMBER
        faulty("b0b0b0b0b0b?", 10, 4);
        faulty("b0b0b0b0b0b99", 10, 4);
        faulty("b0b0b0b0b0b000", 10, 4);
        // what is behind is not read yet
        faulty("x0?", 1, 3);
        faulty("b?000", 1, 1);
        faulty("bb?", 1, 2);
        // a NUMBER that is too long is no TOKEN, wherever it stands
        faulty("000", 0, 1);
        faulty(Checks.times("b0d0", 15) + " 000", 61, 1);
        faulty(Checks.times("b0d0", 15) + " 00", 61, 2);
        faulty(Checks.times("b0d0", 15) + "?", 60, 1);
    }

    private static void fullFrontsLeaveTheTape() {
        CornerFronts x = new CornerFronts();
        checks.due("fault at first", x.fault(), 0);
        Checks.front(x, "b0?");
        checks.due("fault", x.fault(), 1);
        x.sheet(0, 0, 2);
        x.draw(0, 0, 0, 1);
        checks.due("fault after draw", x.fault(), 1);
        for (int f = 0; f < 7; f++) {
            Checks.front(x, "b0d0");
        }
        checks.due("front with a fault", Checks.front(x, "x0"), -11);
        x.copy(0);
        Checks.tape(x, "b1");
        checks.due("front() of 8", x.front(), CornerFronts.FULL);
        checks.due("tape stays", x.count(2), 2);
        checks.due("fault stays", x.fault(), 3);
        checks.due("drop()", x.drop(), 7);
        checks.due("front() of 7", x.front(), -11);
        checks.due("tape is empty", x.count(2), 0);
        Checks.tape(x, "b0d0");
        checks.due("front() of 7", x.front(), 7);
        checks.due("fault", x.fault(), 0);
        Checks.tape(x, "b1");
        checks.due("front() of 8", x.front(), CornerFronts.FULL);
        checks.due("fault stays", x.fault(), 0);
    }
}
