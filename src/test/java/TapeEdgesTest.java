/** The boundary sentences of promises 1 to 5 and of the terms of the tape, one test each. */
public final class TapeEdgesTest {
    private static final Checks checks = new Checks("TapeEdgesTest");
    private static final int BAD = CornerFronts.BAD;
    private static final int FULL = CornerFronts.FULL;
    private static final int NONE = CornerFronts.NONE;
    private static final String BLANKS = " ".repeat(8);
    private static final int NO_TOKEN = 1, MISPLACED = 2, NO_STRANDS = 3, NO_ROOM = 4;

    public static void main(String[] args) {
        newObjectHasNoFronts();
        newObjectHasSheetsOfNothing();
        feedUpTo120();
        feedThatPasses120();
        feedHighestByteFirst();
        feedComesBehind();
        endBelow0();
        endAboveAll();
        endOfAllAndOfNone();
        endTakesBytesForGood();
        noTokens();
        numbersTooLong();
        tokensThatCanNotStand();
        theEndOfTheText();
        strandsThatAreLeft();
        numbersOfNoStrands();
        eventsBeyond30();
        crossesBeyond12();
        strandsBeyond10();
        lettersAheadOfTheirNumbers();
        placesUpTo120();
        frontEmptiesTheTape();
        frontsBeyond8();
        faultIsOfTheLatest();
        checks.finish();
    }

    // ---- 1

    private static void newObjectHasNoFronts() {
        CornerFronts x = new CornerFronts();
        checks.due("1 fronts", x.count(0), 0);
        checks.due("1 bytes", x.count(2), 0);
        checks.due("1 fault", x.fault(), 0);
        checks.due("1 drop", x.drop(), NONE);
        checks.due("1 copy", x.copy(0), BAD);
        checks.due("1 event", x.event(0, 0, 0), BAD);
        checks.due("1 about", x.about(0, 0), BAD);
        checks.due("1 piece", x.piece(0, 0, 0), BAD);
        checks.due("1 number", x.number(0, 0, 0), -1000);
        checks.due("1 link", x.link(0, 0, 1), -1000);
        checks.due("1 sign", x.sign(0, 0), BAD);
        checks.due("1 degree", x.degree(0, 0), -1000);
        checks.due("1 rulings", x.rulings(0, 0, -1), BAD);
        checks.due("1 rulings of sort 2", x.rulings(0, 2, -1), BAD);
        checks.due("1 first", x.first(0, 0, 0), BAD);
        checks.due("1 move", x.move(0, 0, 0), BAD);
        checks.due("1 add", x.add(0, 0, 0, 0), BAD);
        checks.due("1 push", x.push(0, 0, 0), BAD);
        checks.due("1 join", x.join(0, 0), BAD);
        checks.due("1 unlike", x.unlike(0, 0), BAD);
        checks.due("1 the first front", Checks.front(x, "b0d0"), 0);
    }

    private static void newObjectHasSheetsOfNothing() {
        CornerFronts x = new CornerFronts();
        checks.due("1 cells", x.count(1), NONE);
        for (int k = 0; k < 4; k++) {
            checks.due("1 lay", x.lay(k, 0, 0), -11);
            for (int lane = 0; lane < 3; lane++) {
                checks.due("1 draw", x.draw(k, lane, 0, 1), -11);
            }
        }
    }

    // ---- 2

    private static CornerFronts fed(String text) {
        CornerFronts x = new CornerFronts();
        for (int at = 0; at < text.length(); at += 8) {
            x.feed(Checks.eightBytes(text, at));
        }
        x.end(text.length());
        return x;
    }

    private static void feedUpTo120() {
        CornerFronts x = new CornerFronts();
        for (int n = 8; n <= 120; n += 8) {
            checks.due("2 feed", x.feed(Checks.eightBytes(BLANKS, 0)), n);
            checks.due("2 bytes", x.count(2), n);
        }
    }

    /** A refused feed leaves the bytes that are there: they still tell their front. */
    private static void feedThatPasses120() {
        for (int n = 113; n <= 120; n++) {
            CornerFronts x = fed(BLANKS.repeat(14) + "b0d0" + " ".repeat(4));
            x.end(n);
            checks.due("2 feed to " + (n + 8), x.feed(-1), FULL);
            checks.due("2 feed again", x.feed(Checks.eightBytes(BLANKS, 0)), FULL);
            checks.due("2 bytes", x.count(2), n);
            checks.due("2 fault", x.fault(), 0);
            checks.due("2 front of " + n, x.front(), n < 116 ? -10 - n : 0);
        }
        CornerFronts x = fed(BLANKS.repeat(14));
        checks.due("2 feed from 112", x.feed(Checks.eightBytes("b0d0", 0)), 120);
        checks.due("2 front of 120", x.front(), 0);
        checks.dueText("2 front of 120", x, 0, "b0d0");
    }

    private static void feedHighestByteFirst() {
        CornerFronts x = new CornerFronts();
        checks.due("2 feed", x.feed(0x6230623278316431L), 8);
        checks.due("2 feed", x.feed(0x2020202064302020L), 16);
        checks.due("2 front", x.front(), 0);
        checks.dueText("2 front", x, 0, "b0b2x1d1d0");
        // the lowest byte of the first and the highest one of the second are no TOKENS
        x.feed(0x6230643062306401L);
        checks.due("2 the lowest byte is the last", x.front(), -17);
        x.feed(0x8030643062306430L);
        checks.due("2 the highest byte is the first", x.front(), -10);
    }

    private static void feedComesBehind() {
        CornerFronts x = fed("b0b");
        checks.due("2 feed behind 3", x.feed(Checks.eightBytes("2d0d0", 0)), 11);
        checks.due("2 front", x.front(), 0);
        checks.dueText("2 front", x, 0, "b0b2d0d0");
    }

    // ---- 3

    private static void endBelow0() {
        for (int n : new int[] {-1, -2, -8, Integer.MIN_VALUE}) {
            Room.leaves(checks, "3 end(" + n + ")", BAD, x -> x.end(n), "b0d0");
        }
        checks.due("3 end(-1) of none", new CornerFronts().end(-1), BAD);
    }

    private static void endAboveAll() {
        int all = Room.TAPE.length();
        for (int n : new int[] {all + 1, 16, 120, 121, Integer.MAX_VALUE}) {
            Room.leaves(checks, "3 end(" + n + ")", BAD, x -> x.end(n), "b0d0");
        }
        checks.due("3 end(1) of none", new CornerFronts().end(1), BAD);
        CornerFronts x = fed(BLANKS.repeat(15));
        checks.due("3 end(121) of 120", x.end(121), BAD);
        checks.due("3 end(120) of 120", x.end(120), 120);
        checks.due("3 end(119) of 120", x.end(119), 120);
        checks.due("3 end(120) of 119", x.end(120), BAD);
        checks.due("3 bytes", x.count(2), 119);
    }

    private static void endOfAllAndOfNone() {
        CornerFronts x = fed("b0d0");
        checks.due("3 end of all", x.end(4), 4);
        checks.due("3 bytes", x.count(2), 4);
        checks.due("3 front", x.front(), 0);
        checks.due("3 end(0) of none", x.end(0), 0);
        x.feed(Checks.eightBytes("b0d0", 0));
        checks.due("3 end(0)", x.end(0), 8);
        checks.due("3 bytes", x.count(2), 0);
        checks.due("3 end(1) of none", x.end(1), BAD);
        checks.due("3 front of none", x.front(), -10);
    }

    private static void endTakesBytesForGood() {
        CornerFronts x = fed("b0b2d0d0");
        checks.due("3 end(2)", x.end(2), 8);
        checks.due("3 what is gone is gone", x.end(8), BAD);
        checks.due("3 feed", x.feed(Checks.eightBytes("d0", 0)), 10);
        checks.due("3 front", x.front(), 0);
        checks.dueText("3 front", x, 0, "b0d0");
    }

    // ---- 4

    private static void faulty(int fault, int place, String text) {
        CornerFronts x = Checks.with("b0x0d0");
        checks.due("4 bytes of '" + text + "'", Checks.tape(x, text), text.length());
        checks.due("4 front of '" + text + "'", x.front(), -10 - place);
        checks.due("5 fault of '" + text + "'", x.fault(), fault);
        checks.due("4 bytes after '" + text + "'", x.count(2), 0);
        checks.due("4 fronts after '" + text + "'", x.count(0), 1);
        checks.dueText("4 the front that was there", x, 0, "b0x0d0");
    }

    private static void told(String text, String want) {
        CornerFronts x = Checks.with("b0x0d0");
        checks.due("4 bytes of '" + text + "'", Checks.tape(x, text), text.length());
        checks.due("4 front of '" + text + "'", x.front(), 1);
        checks.due("5 fault of '" + text + "'", x.fault(), 0);
        checks.due("4 bytes after '" + text + "'", x.count(2), 0);
        checks.dueText("4 '" + text + "'", x, 1, want);
    }

    private static void noTokens() {
        for (int c = 0; c < 256; c++) {
            boolean token = "bxd 0123456789".indexOf(c) >= 0;
            if (!token) {
                faulty(NO_TOKEN, 0, (char) c + "0");
                faulty(NO_TOKEN, 1, "b" + (char) c);
                faulty(NO_TOKEN, 5, "b0d0 " + (char) c);
            }
        }
        told(" b  0   d    0     ", "b0d0");
    }

    private static void numbersTooLong() {
        told("b00d00", "b0d0");
        told("b00b01d01d00", "b0b1d1d0");
        faulty(NO_TOKEN, 1, "b000");
        faulty(NO_TOKEN, 3, "b  0000000");
        faulty(NO_TOKEN, 3, "b0d001");
        faulty(NO_TOKEN, 0, "123");
        faulty(NO_TOKEN, 2, "  999");
        faulty(NO_TOKEN, 3, "b0 100");
        // two NUMBERS, each short enough: the second one can not stand there
        faulty(MISPLACED, 4, "b00 0");
        faulty(NO_TOKEN, 4, "b00 000");
    }

    private static void tokensThatCanNotStand() {
        faulty(MISPLACED, 0, "0");
        faulty(MISPLACED, 1, " 12");
        faulty(MISPLACED, 1, "bb");
        faulty(MISPLACED, 1, "bx");
        faulty(MISPLACED, 2, "b d0");
        faulty(MISPLACED, 3, "b0xd");
        faulty(MISPLACED, 3, "b0dd0");
        faulty(MISPLACED, 3, "b0 0");
        faulty(MISPLACED, 5, "b0d0 1");
    }

    private static void theEndOfTheText() {
        faulty(MISPLACED, 0, "");
        faulty(MISPLACED, 1, " ");
        faulty(MISPLACED, 8, BLANKS);
        faulty(MISPLACED, 1, "b");
        faulty(MISPLACED, 3, "b  ");
        faulty(MISPLACED, 1, "x");
        faulty(MISPLACED, 1, "d");
        faulty(MISPLACED, 3, "b0x");
        faulty(MISPLACED, 5, "b0d  ");
        faulty(MISPLACED, 5, "b0d0b");
    }

    private static void strandsThatAreLeft() {
        faulty(MISPLACED, 2, "b0");
        faulty(MISPLACED, 5, "b0   ");
        faulty(MISPLACED, 4, "b0x0");
        faulty(MISPLACED, 6, "b0b0d0");
        faulty(MISPLACED, 60, "b0d0".repeat(14) + "b0b0");
    }

    /** Of BIRTH up to how many there are, of CROSS and DEATH two fewer. */
    private static void numbersOfNoStrands() {
        for (int pairs = 0; pairs <= 4; pairs++) {
            String ahead = "b0".repeat(pairs);
            String behind = "d0".repeat(pairs);
            int strands = 2 * pairs;
            int place = ahead.length() + 1;
            told(ahead + "b" + strands + "d0" + behind, ahead + "b" + strands + "d0" + behind);
            faulty(NO_STRANDS, place, ahead + "b" + (strands + 1));
            for (String letter : new String[] {"x", "d"}) {
                if (pairs > 0) {
                    String last = letter + (strands - 2) + (letter.equals("x") ? behind : behind.substring(2));
                    told(ahead + last, ahead + last);
                    faulty(NO_STRANDS, place, ahead + letter + (strands - 1));
                }
                faulty(NO_STRANDS, place, ahead + letter + strands);
                faulty(NO_STRANDS, place + 2, ahead + letter + "  " + 99);
            }
        }
        String ten = "b0b0b0b0b0";
        told(ten + "x8d8d0d0d0d0", ten + "x8d8d0d0d0d0");
        faulty(NO_STRANDS, 11, ten + "x9");
        faulty(NO_STRANDS, 11, ten + "d9");
        // a NUMBER of two figures is read as such, not by one of them or by their sum
        for (int n = 10; n < 100; n++) {
            faulty(NO_STRANDS, 11, ten + "d" + n);
            faulty(NO_STRANDS, 9, "b0b0b0b0b" + n);
        }
    }

    private static void eventsBeyond30() {
        String thirty = "b0d0".repeat(15);
        told(thirty, thirty);
        told(thirty + BLANKS, thirty);
        faulty(NO_ROOM, 60, thirty + "b0d0");
        faulty(NO_ROOM, 60, thirty + "x0");
        faulty(NO_ROOM, 60, thirty + "d0");
        faulty(NO_ROOM, 63, thirty + "   b");
        faulty(NO_ROOM, 60, "b0d0".repeat(14) + "b0b0" + "d0d0");
        // what is no LETTER has its own FAULT there
        faulty(MISPLACED, 61, thirty + " 0");
        faulty(NO_TOKEN, 60, thirty + "?");
        faulty(NO_TOKEN, 61, thirty + " 000");
    }

    private static void crossesBeyond12() {
        String twelve = "b0" + "x0".repeat(12);
        told(twelve + "d0", twelve + "d0");
        told(twelve + "d0b0d0", twelve + "d0b0d0");
        faulty(NO_ROOM, 26, twelve + "x0d0");
        faulty(NO_ROOM, 27, twelve + " x0");
        // also where there are no STRANDS for it
        faulty(NO_ROOM, 28, twelve + "d0x0");
        faulty(NO_STRANDS, 5, "b0d0x0");
    }

    private static void strandsBeyond10() {
        String ten = "b0".repeat(5);
        told(ten + "d0".repeat(5), ten + "d0".repeat(5));
        told(ten + "d0b0" + "d0".repeat(5), ten + "d0b0" + "d0".repeat(5));
        faulty(NO_ROOM, 10, ten + "b0");
        faulty(NO_ROOM, 10, ten + "b10");
        faulty(NO_ROOM, 14, ten + "d0b0b0");
    }

    /** The FAULT of a LETTER is met ahead of all that its NUMBER could be. */
    private static void lettersAheadOfTheirNumbers() {
        String[] fronts = {"b0d0".repeat(15) + "b", "b0" + "x0".repeat(12) + "x", "b0b0b0b0b0b"};
        for (String text : fronts) {
            int place = text.length() - 1;
            for (String number : new String[] {"", "0", "99", "000", "?", "b", "   "}) {
                faulty(NO_ROOM, place, text + number);
            }
        }
        // but what comes first in the text is met first
        faulty(NO_STRANDS, 1, "b1" + "b0".repeat(9));
        faulty(MISPLACED, 1, "bb" + "b0".repeat(9));
        faulty(NO_TOKEN, 0, "?" + "b0".repeat(9));
    }

    private static void placesUpTo120() {
        String blanks = " ".repeat(116);
        told(blanks + "b0d0", "b0d0");
        told("b0d0" + blanks, "b0d0");
        faulty(MISPLACED, 120, blanks + "    ");
        faulty(MISPLACED, 120, blanks + "b0d ");
        faulty(MISPLACED, 120, blanks + "b0b0");
        faulty(NO_TOKEN, 119, blanks + "b0d?");
        faulty(NO_STRANDS, 119, blanks + "b0d1");
        faulty(MISPLACED, 119, blanks + "b0dd");
        faulty(MISPLACED, 120, "b0 " + blanks + "d");
        faulty(NO_TOKEN, 117, blanks + "b000");
    }

    private static void frontEmptiesTheTape() {
        CornerFronts x = Checks.with("b0d0");
        checks.due("4 bytes behind a front", x.count(2), 0);
        checks.due("4 nothing is told twice", x.front(), -10);
        checks.due("4 its fault", x.fault(), MISPLACED);
        Checks.tape(x, "b0b0");
        checks.due("4 a fault", x.front(), -14);
        checks.due("4 bytes behind a fault", x.count(2), 0);
        checks.due("4 nothing is kept of it", x.feed(Checks.eightBytes("d0d0", 0)), 8);
        checks.due("4 a fault", x.front(), -11);
        checks.due("4 its fault", x.fault(), NO_STRANDS);
    }

    private static void frontsBeyond8() {
        Room.leavesWithEight(checks, "4 front with eight", FULL, x -> x.front(), "b0d0");
        CornerFronts x = new CornerFronts();
        for (int f = 0; f < 8; f++) {
            checks.due("4 front " + f, Checks.front(x, "b0d0"), f);
        }
        // FULL comes ahead of the text's FAULTS
        for (String text : new String[] {"", "?", "0", "b1", "b0b0b0b0b0b"}) {
            Checks.tape(x, text);
            checks.due("4 front of '" + text + "' with eight", x.front(), FULL);
            checks.due("4 its bytes stay", x.count(2), text.length());
            checks.due("5 its fault is none", x.fault(), 0);
            x.end(0);
        }
        checks.due("4 eight fronts", x.count(0), 8);
    }

    // ---- 5

    private static void faultIsOfTheLatest() {
        CornerFronts x = new CornerFronts();
        checks.due("5 none at first", x.fault(), 0);
        String[] texts = {"?", "0", "b1", "b0b0b0b0b0b"};
        for (int fault = 1; fault <= 4; fault++) {
            Checks.front(x, texts[fault - 1]);
            checks.due("5 fault", x.fault(), fault);
            checks.due("5 fault again", x.fault(), fault);
        }
        // only front() has a FAULT that is kept
        x.lay(0, 0, 0);
        x.sheet(0, 0, -1);
        x.draw(0, 0, 0, 1);
        x.feed(0);
        x.end(9);
        x.end(0);
        x.drop();
        checks.due("5 fault behind other calls", x.fault(), 4);
        Checks.front(x, "b0d0");
        checks.due("5 none behind a front", x.fault(), 0);
        Checks.front(x, "b");
        for (int f = 1; f < 8; f++) {
            x.copy(0);
        }
        Checks.tape(x, "b0d0");
        checks.due("5 front with eight", x.front(), FULL);
        checks.due("5 FULL leaves the fault", x.fault(), MISPLACED);
    }
}
