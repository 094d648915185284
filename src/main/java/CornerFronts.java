/**
 * Fronts with corners: knots and links drawn as rows of births, crossings and
 * deaths of strands. The document's words are kept: FRONT, EVENT, STRAND, PIECE,
 * SHEET, THE TAPE. An ARC is this program's own word: a STRAND from the corner
 * where it begins to the corner where it ends, straight on through all CROSSES.
 */
public final class CornerFronts {
    public static final int BAD = -1, STATE = -2, FULL = -3, NONE = -4;

    private static final int BIRTH = 0, CROSS = 1, DEATH = 2;

    private static final int MOST_FRONTS = 8;
    private static final int MOST_EVENTS = 30;
    private static final int MOST_CROSSES = 12;
    private static final int MOST_STRANDS = 10;
    /** Half of the EVENTS are BIRTHS, and each BIRTH begins two ARCS. */
    private static final int MOST_ARCS = MOST_EVENTS;
    private static final int MOST_PIECES = MOST_EVENTS / 2;
    private static final int MOST_SHEETS = 4;
    private static final int MOST_CELLS = 62;
    private static final int MOST_BYTES = 120;
    private static final int FED_BYTES = 8;

    private static final int BYTES = 0, SHORTS = 1, INTS = 2;

    /** What front() and draw() answer of a FAULT lies below these. */
    private static final int FAULT_BASE = -10;
    private static final int NO_PLACE_BASE = -20;
    private static final int STRANDS_LEFT = -50;

    /** -1 is a number that these calls may answer, so their BAD is another one. */
    private static final int BAD_NUMBER = -1000;
    private static final int MORE_PIECES = -1002;

    private static final int SWAP = 0, SLIDE = 1, UNCURL = 2, PULL = 3, STRAIGHTEN = 4;

    private static final int ANY_SORT = 0, PLUS_SORT = 1, LEVEL_SORT = 2;
    private static final int ANY_SWITCHED = -1;

    private final Tape tape = new Tape();
    private final Sheet[] sheets = new Sheet[MOST_SHEETS];
    private final Front[] fronts = new Front[MOST_FRONTS];
    /** What a call builds is built here, so that a refusal leaves the FRONTS as they were. */
    private final Front draft = new Front();
    private final Patch patch = new Patch();
    private final Ways ways = new Ways();
    private final Switching switching = new Switching();
    private int frontCount = 0;
    private int latestFault = 0;

    public CornerFronts() {
        for (int k = 0; k < MOST_SHEETS; k++) {
            sheets[k] = new Sheet();
        }
        for (int f = 0; f < MOST_FRONTS; f++) {
            fronts[f] = new Front();
        }
    }

    // ---- the tape and the sheets

    public int feed(long v) {
        if (tape.length > MOST_BYTES - FED_BYTES) {
            return FULL;
        }
        tape.take(v);
        return tape.length;
    }

    public int end(int n) {
        if (n < 0 || n > tape.length) {
            return BAD;
        }
        int had = tape.length;
        tape.length = n;
        return had;
    }

    public int front() {
        if (frontCount >= MOST_FRONTS) {
            return FULL;
        }
        latestFault = tape.tell(draft);
        tape.length = 0;
        return latestFault == 0 ? keepDraft() : FAULT_BASE - tape.tokenPlace;
    }

    public int fault() {
        return latestFault;
    }

    public int sheet(int k, int lane, int n) {
        if (!isSheet(k) || !isLane(lane) || n > MOST_CELLS) {
            return BAD;
        }
        if (n < 0) {
            return FAULT_BASE - Sheet.SIZE_FAULT;
        }
        sheets[k].renew(lane, n);
        return 1;
    }

    public int lay(int k, int i, int v) {
        if (!isSheet(k)) {
            return BAD;
        }
        int found = sheets[k].write(i, v);
        return found == 0 ? 1 : FAULT_BASE - found;
    }

    public int draw(int k, int lane, int f, int n) {
        if (!isSheet(k) || !isLane(lane) || n < 1 || n > MOST_EVENTS) {
            return BAD;
        }
        int refusal = sheets[k].tell(draft, lane, f, n);
        return refusal == 0 ? keepDraft() : refusal;
    }

    // ---- fronts and what is known of them

    public int copy(int f) {
        if (!isFront(f)) {
            return BAD;
        }
        draft.become(fronts[f]);
        return keepDraft();
    }

    public int drop() {
        if (frontCount == 0) {
            return NONE;
        }
        frontCount--;
        return frontCount;
    }

    public int event(int f, int i, int what) {
        if (!isEvent(f, i)) {
            return BAD;
        }
        switch (what) {
            case 0: return fronts[f].kinds[i];
            case 1: return fronts[f].places[i];
            case 2: return fronts[f].ahead[i];
            default: return BAD;
        }
    }

    public int about(int f, int what) {
        if (!isFront(f)) {
            return BAD;
        }
        Front told = fronts[f];
        switch (what) {
            case 0: return told.size;
            case 1: return told.crosses;
            case 2: return (told.size - told.crosses) / 2;
            case 3: return traced(f).pieces;
            case 4: return told.mostStrands();
            case 5: return traced(f).plusCrosses();
            default: return BAD;
        }
    }

    public int piece(int f, int i, int k) {
        if (!isEvent(f, i) || k < 0 || k >= fronts[f].ahead[i]) {
            return BAD;
        }
        return traced(f).pieceAt(i, k);
    }

    public int number(int f, int piece, int what) {
        if (!isFront(f) || !traced(f).isPiece(piece)) {
            return BAD_NUMBER;
        }
        switch (what) {
            case 0: return ways.writhe(piece);
            case 1: return ways.writhe(piece) - ways.deaths(piece);
            case 2: return ways.turn(piece);
            case 3: return ways.downs[piece] + ways.ups[piece];
            case 4: return ways.firstBirths[piece];
            default: return BAD_NUMBER;
        }
    }

    public int link(int f, int piece, int other) {
        if (!isFront(f) || !traced(f).isPiece(piece) || !ways.isPiece(other) || piece == other) {
            return BAD_NUMBER;
        }
        return ways.linking(piece, other);
    }

    public int sign(int f, int i) {
        if (!isCross(f, i)) {
            return BAD;
        }
        return traced(f).isPlus(i) ? 1 : 0;
    }

    public int degree(int f, int i) {
        if (!isCross(f, i)) {
            return BAD_NUMBER;
        }
        if (traced(f).pieces != 1) {
            return MORE_PIECES;
        }
        return ways.levelStep(i);
    }

    public int rulings(int f, int sort, int n) {
        if (!isFront(f) || !isSort(sort) || n < ANY_SWITCHED) {
            return BAD;
        }
        if (!hasSort(f, sort)) {
            return STATE;
        }
        switching.countAll(ways, sort);
        return n == ANY_SWITCHED ? switching.found : switching.foundWith(n);
    }

    public int first(int f, int sort, int i) {
        if (!isFront(f) || !isSort(sort) || i < 0 || i >= fronts[f].crosses) {
            return BAD;
        }
        if (!hasSort(f, sort)) {
            return STATE;
        }
        switching.findFirst(ways, sort);
        if (switching.found == 0) {
            return NONE;
        }
        return (switching.firstSwitched >> i) & 1;
    }

    // ---- moves

    public int move(int f, int kind, int i) {
        if (!isEvent(f, i) || kind < SWAP || kind > STRAIGHTEN) {
            return BAD;
        }
        return patch.planMove(fronts[f], kind, i) ? applyPatch(f, i) : STATE;
    }

    public int add(int f, int kind, int i, int k) {
        if (!isFront(f) || kind < 0 || kind > 3 || i < 0 || i > fronts[f].size) {
            return BAD;
        }
        if (k < 0 || k >= fronts[f].ahead[i]) {
            return BAD;
        }
        patch.planAdd(kind, k);
        return applyPatch(f, i);
    }

    public int push(int f, int kind, int i) {
        if (!isEvent(f, i) || kind < 0 || kind > 1) {
            return BAD;
        }
        return patch.planPush(fronts[f], kind, i) ? applyPatch(f, i) : STATE;
    }

    public int join(int f, int g) {
        if (!isFront(f) || !isFront(g)) {
            return BAD;
        }
        draft.clear();
        boolean fits = draft.appendRange(fronts[f], 0, fronts[f].size - 1)
            && draft.appendRange(fronts[g], 1, fronts[g].size);
        return fits ? keepDraft() : FULL;
    }

    public int unlike(int f, int g) {
        if (!isFront(f) || !isFront(g)) {
            return BAD;
        }
        return fronts[f].firstUnlike(fronts[g]);
    }

    public int count(int what) {
        switch (what) {
            case 0: return frontCount;
            case 1: return sheets[0].lane == Sheet.NOTHING ? NONE : sheets[0].size;
            case 2: return tape.length;
            default: return BAD;
        }
    }

    // ---- what the calls share

    private boolean isFront(int f) {
        return f >= 0 && f < frontCount;
    }

    private boolean isEvent(int f, int i) {
        return isFront(f) && i >= 0 && i < fronts[f].size;
    }

    private boolean isCross(int f, int i) {
        return isEvent(f, i) && fronts[f].kinds[i] == CROSS;
    }

    private static boolean isSheet(int k) {
        return k >= 0 && k < MOST_SHEETS;
    }

    private static boolean isLane(int lane) {
        return lane >= BYTES && lane <= INTS;
    }

    private static boolean isSort(int sort) {
        return sort >= ANY_SORT && sort <= LEVEL_SORT;
    }

    /** LEVELS are told of one PIECE alone, so a sort that asks for them needs just one. */
    private boolean hasSort(int f, int sort) {
        return traced(f).pieces == 1 || sort != LEVEL_SORT;
    }

    private Ways traced(int f) {
        ways.trace(fronts[f]);
        return ways;
    }

    private int keepDraft() {
        if (frontCount >= MOST_FRONTS) {
            return FULL;
        }
        fronts[frontCount].become(draft);
        frontCount++;
        return frontCount - 1;
    }

    private int applyPatch(int f, int i) {
        Front old = fronts[f];
        draft.clear();
        boolean fits = draft.appendRange(old, 0, i)
            && draft.appendPatch(patch)
            && draft.appendRange(old, i + patch.gone, old.size);
        if (!fits) {
            return FULL;
        }
        old.become(draft);
        return old.size;
    }

    /** A row of EVENTS. As it is built it may have STRANDS left; one that is kept has none. */
    private static final class Front {
        final int[] kinds = new int[MOST_EVENTS];
        final int[] places = new int[MOST_EVENTS];
        /** STRANDS ahead of each EVENT, and behind the last one. */
        final int[] ahead = new int[MOST_EVENTS + 1];
        int size = 0;
        int crosses = 0;

        void clear() {
            size = 0;
            crosses = 0;
            ahead[0] = 0;
        }

        void become(Front other) {
            System.arraycopy(other.kinds, 0, kinds, 0, MOST_EVENTS);
            System.arraycopy(other.places, 0, places, 0, MOST_EVENTS);
            System.arraycopy(other.ahead, 0, ahead, 0, MOST_EVENTS + 1);
            size = other.size;
            crosses = other.crosses;
        }

        boolean isWhole() {
            return size > 0 && ahead[size] == 0;
        }

        boolean hasRoomFor(int kind) {
            if (size >= MOST_EVENTS) {
                return false;
            }
            if (kind == CROSS) {
                return crosses < MOST_CROSSES;
            }
            return kind != BIRTH || ahead[size] + 2 <= MOST_STRANDS;
        }

        /** A place is never added to here: one read from INTS may be the highest int. */
        boolean hasStrandsFor(int kind, int place) {
            int highest = kind == BIRTH ? ahead[size] : ahead[size] - 2;
            return place >= 0 && place <= highest;
        }

        boolean append(int kind, int place) {
            if (kind < BIRTH || kind > DEATH || !hasRoomFor(kind) || !hasStrandsFor(kind, place)) {
                return false;
            }
            kinds[size] = kind;
            places[size] = place;
            ahead[size + 1] = ahead[size] + strandsAdded(kind);
            crosses += kind == CROSS ? 1 : 0;
            size++;
            return true;
        }

        boolean appendRange(Front other, int from, int to) {
            for (int i = from; i < to; i++) {
                if (!append(other.kinds[i], other.places[i])) {
                    return false;
                }
            }
            return true;
        }

        boolean appendPatch(Patch patch) {
            for (int i = 0; i < patch.size; i++) {
                if (!append(patch.kinds[i], patch.places[i])) {
                    return false;
                }
            }
            return true;
        }

        int mostStrands() {
            int most = 0;
            for (int i = 0; i < size; i++) {
                most = Math.max(most, ahead[i]);
            }
            return most;
        }

        int firstUnlike(Front other) {
            int shared = Math.min(size, other.size);
            for (int i = 0; i < shared; i++) {
                if (kinds[i] != other.kinds[i] || places[i] != other.places[i]) {
                    return i;
                }
            }
            return size == other.size ? NONE : shared;
        }

        static int strandsAdded(int kind) {
            if (kind == BIRTH) {
                return 2;
            }
            return kind == DEATH ? -2 : 0;
        }
    }

    /** The bytes, and the reader that takes TOKEN after TOKEN of them. */
    private static final class Tape {
        static final int NO_TOKEN_FAULT = 1, PLACE_FAULT = 2, STRANDS_FAULT = 3, ROOM_FAULT = 4;
        static final int NO_TOKEN = 0, LETTER = 1, NUMBER = 2, END = 3;
        static final int MOST_FIGURES = 2;
        static final String LETTERS = "bxd";

        final byte[] bytes = new byte[MOST_BYTES];
        int length = 0;
        int at = 0;
        int token = NO_TOKEN;
        int tokenPlace = 0;
        /** Of a LETTER the kind of its EVENT, of a NUMBER what it says. */
        int tokenValue = 0;

        void take(long v) {
            for (int i = 0; i < FED_BYTES && length < MOST_BYTES; i++) {
                bytes[length] = (byte) (v >> (56 - 8 * i));
                length++;
            }
        }

        /** Answers the FAULT, 0 if there is none; its place is then the latest TOKEN's. */
        int tell(Front into) {
            into.clear();
            at = 0;
            for (int i = 0; i <= MOST_EVENTS; i++) {
                readToken();
                if (token == END) {
                    return into.isWhole() ? 0 : PLACE_FAULT;
                }
                int found = tellEvent(into);
                if (found != 0) {
                    return found;
                }
            }
            return ROOM_FAULT;
        }

        private int tellEvent(Front into) {
            if (token != LETTER) {
                return misplaced();
            }
            int kind = tokenValue;
            if (!into.hasRoomFor(kind)) {
                return ROOM_FAULT;
            }
            readToken();
            if (token != NUMBER) {
                return misplaced();
            }
            return into.append(kind, tokenValue) ? 0 : STRANDS_FAULT;
        }

        private int misplaced() {
            return token == NO_TOKEN ? NO_TOKEN_FAULT : PLACE_FAULT;
        }

        private void readToken() {
            while (at < length && bytes[at] == ' ') {
                at++;
            }
            tokenPlace = at;
            if (at >= length) {
                token = END;
            } else if (isFigure(at)) {
                readNumber();
            } else {
                readLetter();
            }
        }

        private void readLetter() {
            tokenValue = LETTERS.indexOf((char) (bytes[at] & 255));
            token = tokenValue < 0 ? NO_TOKEN : LETTER;
            at++;
        }

        private void readNumber() {
            tokenValue = 0;
            int figures = 0;
            while (at < length && isFigure(at) && figures <= MOST_FIGURES) {
                tokenValue = 10 * tokenValue + bytes[at] - '0';
                at++;
                figures++;
            }
            token = figures > MOST_FIGURES ? NO_TOKEN : NUMBER;
        }

        private boolean isFigure(int place) {
            return bytes[place] >= '0' && bytes[place] <= '9';
        }
    }

    /** One row of CELLS is used for all lanes: a CELL is narrowed as it is written. */
    private static final class Sheet {
        static final int NOTHING = -1;
        static final int NULL_FAULT = 1, INDEX_FAULT = 2, CAST_FAULT = 3, SIZE_FAULT = 4;

        final int[] cells = new int[MOST_CELLS];
        int lane = NOTHING;
        int size = 0;

        void renew(int newLane, int newSize) {
            lane = newLane;
            size = newSize;
            for (int i = 0; i < MOST_CELLS; i++) {
                cells[i] = 0;
            }
        }

        int write(int i, int v) {
            if (lane == NOTHING) {
                return NULL_FAULT;
            }
            if (i < 0 || i >= size) {
                return INDEX_FAULT;
            }
            cells[i] = narrowed(v);
            return 0;
        }

        private int narrowed(int v) {
            switch (lane) {
                case BYTES: return (byte) v;
                case SHORTS: return (short) v;
                default: return v;
            }
        }

        /** Answers what draw() answers if it refuses, else 0. */
        int tell(Front into, int asLane, int from, int events) {
            if (lane == NOTHING) {
                return FAULT_BASE - NULL_FAULT;
            }
            if (lane != asLane) {
                return FAULT_BASE - CAST_FAULT;
            }
            into.clear();
            for (int i = 0; i < events; i++) {
                // a long, as CELL numbers near the highest int would wrap around
                long cell = (long) from + 2 * i;
                if (cell < 0 || cell + 1 >= size) {
                    return FAULT_BASE - INDEX_FAULT;
                }
                if (!into.append(cells[(int) cell], cells[(int) cell + 1])) {
                    return NO_PLACE_BASE - i;
                }
            }
            return into.isWhole() ? 0 : STRANDS_LEFT;
        }
    }

    /** What a call wants put in the place of some EVENTS of a FRONT. */
    private static final class Patch {
        static final int MOST_PUT = 3;

        final int[] kinds = new int[MOST_PUT];
        final int[] places = new int[MOST_PUT];
        int size = 0;
        /** How many EVENTS the patch takes away. */
        int gone = 0;

        private void begin(int goneThen) {
            size = 0;
            gone = goneThen;
        }

        private void put(int kind, int place) {
            if (size < MOST_PUT) {
                kinds[size] = kind;
                places[size] = place;
                size++;
            }
        }

        private void putThree(int kind, int place, int nextKind, int nextPlace, int lastKind, int lastPlace) {
            put(kind, place);
            put(nextKind, nextPlace);
            put(lastKind, lastPlace);
        }

        boolean planMove(Front of, int kind, int i) {
            switch (kind) {
                case SWAP: return planSwap(of, i);
                case SLIDE: return planSlide(of, i);
                case UNCURL: return planUncurl(of, i);
                case PULL: return planPull(of, i);
                case STRAIGHTEN: return planStraighten(of, i);
                default: return false;
            }
        }

        private boolean planSwap(Front of, int i) {
            if (i + 1 >= of.size) {
                return false;
            }
            int e = of.kinds[i];
            int k = of.places[i];
            int g = of.kinds[i + 1];
            int m = of.places[i + 1];
            int placesBehind = e == DEATH ? 0 : 2;
            int placesAhead = g == BIRTH ? 0 : 2;
            begin(2);
            if (m >= k + placesBehind) {
                put(g, m - Front.strandsAdded(e));
                put(e, k);
                return true;
            }
            if (m + placesAhead <= k) {
                put(g, m);
                put(e, k + Front.strandsAdded(g));
                return true;
            }
            return false;
        }

        private boolean planSlide(Front of, int i) {
            if (!hasKinds(of, i, CROSS, CROSS, CROSS) || !goesThereAndBack(of, i)) {
                return false;
            }
            begin(3);
            int outer = of.places[i];
            int inner = of.places[i + 1];
            putThree(CROSS, inner, CROSS, outer, CROSS, inner);
            return true;
        }

        private boolean planUncurl(Front of, int i) {
            begin(3);
            return hasKinds(of, i, BIRTH, CROSS, DEATH) && goesThereAndBack(of, i);
        }

        /** In all four kinds of it the corner gets the number of the EVENT in the middle. */
        private boolean planPull(Front of, int i) {
            boolean atBirth = hasKinds(of, i, BIRTH, CROSS, CROSS);
            boolean atDeath = hasKinds(of, i, CROSS, CROSS, DEATH);
            if (!(atBirth || atDeath) || !goesThereAndBack(of, i)) {
                return false;
            }
            begin(3);
            put(atBirth ? BIRTH : DEATH, of.places[i + 1]);
            return true;
        }

        private boolean planStraighten(Front of, int i) {
            begin(2);
            return i + 1 < of.size && of.kinds[i] == BIRTH && of.kinds[i + 1] == DEATH
                && Math.abs(of.places[i] - of.places[i + 1]) == 1;
        }

        private static boolean hasKinds(Front of, int i, int kind, int nextKind, int lastKind) {
            return i + 2 < of.size && of.kinds[i] == kind
                && of.kinds[i + 1] == nextKind && of.kinds[i + 2] == lastKind;
        }

        /** Three EVENTS have the numbers k, k + 1, k, or k + 1, k, k + 1. */
        private static boolean goesThereAndBack(Front of, int i) {
            return of.places[i] == of.places[i + 2]
                && Math.abs(of.places[i] - of.places[i + 1]) == 1;
        }

        void planAdd(int kind, int k) {
            begin(0);
            switch (kind) {
                case 0:
                    putThree(BIRTH, k + 1, CROSS, k, DEATH, k + 1);
                    break;
                case 1:
                    putThree(BIRTH, k, CROSS, k + 1, DEATH, k);
                    break;
                case 2:
                    put(BIRTH, k + 1);
                    put(DEATH, k);
                    break;
                default:
                    put(BIRTH, k);
                    put(DEATH, k + 1);
                    break;
            }
        }

        boolean planPush(Front of, int kind, int i) {
            begin(1);
            int k = of.places[i];
            switch (of.kinds[i]) {
                case BIRTH: return planBirthPush(kind, k, of.ahead[i]);
                case DEATH: return planDeathPush(kind, k, of.ahead[i]);
                default: return false;
            }
        }

        private boolean planBirthPush(int kind, int k, int strands) {
            if (kind == 0) {
                putThree(BIRTH, k - 1, CROSS, k, CROSS, k - 1);
                return k >= 1;
            }
            putThree(BIRTH, k + 1, CROSS, k, CROSS, k + 1);
            return k < strands;
        }

        private boolean planDeathPush(int kind, int k, int strands) {
            if (kind == 0) {
                putThree(CROSS, k - 1, CROSS, k, DEATH, k - 1);
                return k >= 1;
            }
            putThree(CROSS, k + 1, CROSS, k, DEATH, k + 1);
            return k + 2 < strands;
        }
    }

    /**
     * The ARCS of a FRONT and the PIECES that they make. The ARCS of one BIRTH are
     * numbered 2j (lower) and 2j + 1 (upper), so a ^ 1 begins at the same corner as a.
     */
    private static final class Ways {
        private static final int NO_PIECE = -1;

        /** Never null: a FRONT of no EVENTS until one is given. */
        private Front of = new Front();
        /** The ARC of each STRAND ahead of each EVENT, and behind the last one. */
        private final int[][] arcs = new int[MOST_EVENTS + 1][MOST_STRANDS];
        private final int[] birthOf = new int[MOST_ARCS];
        private final int[] endMate = new int[MOST_ARCS];
        private final boolean[] endsAbove = new boolean[MOST_ARCS];
        private final int[] pieceOf = new int[MOST_ARCS];
        private final boolean[] goesRight = new boolean[MOST_ARCS];
        private final int[] level = new int[MOST_ARCS];
        private int arcCount = 0;

        int pieces = 0;
        final int[] firstBirths = new int[MOST_PIECES];
        final int[] downs = new int[MOST_PIECES];
        final int[] ups = new int[MOST_PIECES];

        void trace(Front front) {
            of = front;
            layArcs();
            for (int a = 0; a < arcCount; a++) {
                pieceOf[a] = NO_PIECE;
            }
            pieces = 0;
            for (int a = 1; a < arcCount; a += 2) {
                if (pieceOf[a] == NO_PIECE && pieces < MOST_PIECES) {
                    walk(a);
                }
            }
        }

        private void layArcs() {
            arcCount = 0;
            for (int i = 0; i < of.size; i++) {
                int[] from = arcs[i];
                int[] to = arcs[i + 1];
                int k = of.places[i];
                int strands = of.ahead[i];
                if (of.kinds[i] == BIRTH) {
                    System.arraycopy(from, 0, to, 0, k);
                    System.arraycopy(from, k, to, k + 2, strands - k);
                    beginArcs(i, to, k);
                } else if (of.kinds[i] == CROSS) {
                    System.arraycopy(from, 0, to, 0, strands);
                    to[k] = from[k + 1];
                    to[k + 1] = from[k];
                } else {
                    System.arraycopy(from, 0, to, 0, k);
                    System.arraycopy(from, k + 2, to, k, strands - k - 2);
                    endArcs(from[k], from[k + 1]);
                }
            }
        }

        private void beginArcs(int i, int[] row, int k) {
            row[k] = arcCount;
            row[k + 1] = arcCount + 1;
            birthOf[arcCount] = i;
            birthOf[arcCount + 1] = i;
            arcCount += 2;
        }

        private void endArcs(int lower, int upper) {
            endMate[lower] = upper;
            endMate[upper] = lower;
            endsAbove[lower] = false;
            endsAbove[upper] = true;
        }

        /** Goes once around, two ARCS a step: one to the right, then one back to the left. */
        private void walk(int start) {
            int piece = pieces;
            pieces++;
            firstBirths[piece] = birthOf[start];
            downs[piece] = 0;
            ups[piece] = 0;
            int arc = start;
            int height = 0;
            for (int step = 0; step < MOST_PIECES; step++) {
                mark(arc, piece, true, height);
                height += turnCorner(piece, endsAbove[arc]);
                int back = endMate[arc];
                mark(back, piece, false, height);
                height += turnCorner(piece, (back & 1) == 1);
                arc = back ^ 1;
                if (arc == start) {
                    return;
                }
            }
        }

        private void mark(int arc, int piece, boolean right, int height) {
            pieceOf[arc] = piece;
            goesRight[arc] = right;
            level[arc] = height;
        }

        /** Answers how much the LEVEL of the next ARC is above that of this one. */
        private int turnCorner(int piece, boolean fromAbove) {
            if (fromAbove) {
                downs[piece]++;
                return -1;
            }
            ups[piece]++;
            return 1;
        }

        boolean isPiece(int piece) {
            return piece >= 0 && piece < pieces;
        }

        int pieceAt(int i, int k) {
            return pieceOf[arcs[i][k]];
        }

        private int lowerArc(int i) {
            return arcs[i][of.places[i]];
        }

        private int upperArc(int i) {
            return arcs[i][of.places[i] + 1];
        }

        boolean isPlus(int i) {
            return goesRight[lowerArc(i)] == goesRight[upperArc(i)];
        }

        int plusCrosses() {
            int plus = 0;
            for (int i = 0; i < of.size; i++) {
                if (of.kinds[i] == CROSS && isPlus(i)) {
                    plus++;
                }
            }
            return plus;
        }

        int writhe(int piece) {
            return signSum(piece, piece);
        }

        int linking(int piece, int other) {
            return (signSum(piece, other) + signSum(other, piece)) / 2;
        }

        /** PLUS less MINUS of the CROSSES with these PIECES below and above, ahead of them. */
        private int signSum(int pieceBelow, int pieceAbove) {
            int sum = 0;
            for (int i = 0; i < of.size; i++) {
                if (of.kinds[i] == CROSS && pieceOf[lowerArc(i)] == pieceBelow
                        && pieceOf[upperArc(i)] == pieceAbove) {
                    sum += isPlus(i) ? 1 : -1;
                }
            }
            return sum;
        }

        /** Each way to the right ends at a DEATH and each way back at a BIRTH. */
        int deaths(int piece) {
            return (downs[piece] + ups[piece]) / 2;
        }

        int turn(int piece) {
            return (downs[piece] - ups[piece]) / 2;
        }

        /** The DEGREE of a CROSS of a FRONT of one PIECE. */
        int levelStep(int i) {
            int step = level[upperArc(i)] - level[lowerArc(i)];
            int modulus = 2 * Math.abs(turn(0));
            return modulus == 0 ? step : Math.floorMod(step, modulus);
        }
    }

    /** Looks for the RULINGS of a FRONT, those that are not SWITCHED first. */
    private static final class Switching {
        /** Never null: a FRONT of no EVENTS until one is given. */
        private Front of = new Front();
        /** The mate of each STRAND ahead of each EVENT, and behind the last one. */
        private final int[][] mates = new int[MOST_EVENTS + 1][MOST_STRANDS];
        private final boolean[] maySwitch = new boolean[MOST_EVENTS];
        private final int[] foundBySwitched = new int[MOST_CROSSES + 1];
        private boolean oneIsEnough = false;

        int found = 0;
        /** Bit i: whether the i-th CROSS is SWITCHED in the first RULING. */
        int firstSwitched = 0;

        void countAll(Ways ways, int sort) {
            begin(ways, sort, false);
            search(0, 0, 0);
        }

        void findFirst(Ways ways, int sort) {
            begin(ways, sort, true);
            search(0, 0, 0);
        }

        int foundWith(int switched) {
            return switched >= 0 && switched <= MOST_CROSSES ? foundBySwitched[switched] : 0;
        }

        private void begin(Ways ways, int sort, boolean one) {
            of = ways.of;
            oneIsEnough = one;
            found = 0;
            firstSwitched = 0;
            for (int n = 0; n <= MOST_CROSSES; n++) {
                foundBySwitched[n] = 0;
            }
            for (int i = 0; i < of.size; i++) {
                maySwitch[i] = of.kinds[i] == CROSS && isOfSort(ways, sort, i);
            }
        }

        private static boolean isOfSort(Ways ways, int sort, int i) {
            switch (sort) {
                case ANY_SORT: return true;
                case PLUS_SORT: return ways.isPlus(i);
                default: return ways.levelStep(i) == 0;
            }
        }

        /** The mates ahead of EVENT i are known; i is the depth, at most 30. */
        private void search(int i, int crossesMet, int switched) {
            if (i >= of.size || i >= MOST_EVENTS) {
                note(switched);
                return;
            }
            int k = of.places[i];
            if (of.kinds[i] == BIRTH) {
                pairNew(i, k);
                search(i + 1, crossesMet, switched);
            } else if (mates[i][k] == k + 1) {
                searchPaired(i, crossesMet, switched);
            } else if (of.kinds[i] == CROSS) {
                searchCross(i, crossesMet, switched);
            }
        }

        /** A pair may end at one corner, but its two STRANDS may not cross. */
        private void searchPaired(int i, int crossesMet, int switched) {
            if (of.kinds[i] == DEATH) {
                dropPair(i, of.places[i]);
                search(i + 1, crossesMet, switched);
            }
        }

        private void searchCross(int i, int crossesMet, int switched) {
            int k = of.places[i];
            changePlaces(i, k);
            search(i + 1, crossesMet + 1, switched);
            if (oneIsEnough && found > 0) {
                return;
            }
            if (maySwitch[i] && !interlocked(i, k)) {
                System.arraycopy(mates[i], 0, mates[i + 1], 0, MOST_STRANDS);
                search(i + 1, crossesMet + 1, switched | (1 << crossesMet));
            }
        }

        private void note(int switched) {
            if (found == 0) {
                firstSwitched = switched;
            }
            found++;
            int n = Integer.bitCount(switched);
            if (n <= MOST_CROSSES) {
                foundBySwitched[n]++;
            }
        }

        private void pairNew(int i, int k) {
            int[] from = mates[i];
            int[] to = mates[i + 1];
            for (int s = 0; s < of.ahead[i]; s++) {
                int mate = from[s];
                to[s < k ? s : s + 2] = mate < k ? mate : mate + 2;
            }
            to[k] = k + 1;
            to[k + 1] = k;
        }

        private void dropPair(int i, int k) {
            int[] from = mates[i];
            int[] to = mates[i + 1];
            for (int s = 0; s < of.ahead[i]; s++) {
                int mate = from[s];
                if (s < k || s > k + 1) {
                    to[s < k ? s : s - 2] = mate < k ? mate : mate - 2;
                }
            }
        }

        private void changePlaces(int i, int k) {
            int[] to = mates[i + 1];
            System.arraycopy(mates[i], 0, to, 0, MOST_STRANDS);
            int lowerMate = mates[i][k];
            int upperMate = mates[i][k + 1];
            to[k] = upperMate;
            to[upperMate] = k;
            to[k + 1] = lowerMate;
            to[lowerMate] = k + 1;
        }

        /** Whether the pair of k holds just one of the pair of k + 1. */
        private boolean interlocked(int i, int k) {
            int mate = mates[i][k];
            int low = Math.min(k, mate);
            int high = Math.max(k, mate);
            int other = mates[i][k + 1];
            boolean holdsNext = low < k + 1 && k + 1 < high;
            boolean holdsOther = low < other && other < high;
            return holdsNext != holdsOther;
        }
    }
}
