import java.util.Random;

/** Long runs of calls, drawn with fixed seeds, on the program and on the model: all answers agree. */
public final class ModelTest {
    private static final Checks checks = new Checks("ModelTest");
    private static final int RUNS = 1500;
    /** What an object answers after 512 calls is free, and a step with its look around may need 160. */
    private static final int CALLS = 512 - 160;
    private static final int[] EDGES = {
        Integer.MIN_VALUE, Integer.MIN_VALUE + 1, -1000, -2, -1, 0, 1, 2, 3, 4, 5, 7, 8, 9, 10, 11, 12, 13,
        29, 30, 31, 61, 62, 63, 120, 121, 1000, Integer.MAX_VALUE - 1, Integer.MAX_VALUE};

    private final Random random;
    private final int run;
    private final CornerFronts x = new CornerFronts();
    private final Model m = new Model();
    private int calls = 0;

    private ModelTest(int run) {
        this.run = run;
        this.random = new Random(run);
    }

    public static void main(String[] args) {
        for (int run = 0; run < RUNS; run++) {
            ModelTest test = new ModelTest(run);
            while (test.calls < CALLS) {
                test.sameFront();
                test.step();
            }
            checks.holds("run " + run + " has at most 512 calls", test.calls <= 512);
        }
        checks.finish();
    }

    /** Numbers that are mostly below n, now and then any. */
    private int some(int n) {
        return random.nextInt(24) == 0 ? EDGES[random.nextInt(EDGES.length)] : random.nextInt(Math.max(n, 1));
    }

    private int someFront() {
        return some(Math.max(1, m.count(0)));
    }

    private int someEvent(int f) {
        return some(Math.max(1, m.about(f, 0)));
    }

    private void due(String call, int got, int want) {
        calls++;
        checks.due("run " + run + " " + call, got, want);
    }

    /** What is refused changes nothing: all events of a front are looked at, now and then. */
    private void sameFront() {
        if (random.nextInt(4) != 0) {
            return;
        }
        int f = someFront();
        for (int i = 0; i <= m.about(f, 0); i++) {
            for (int what = 0; what < 3; what++) {
                due("event(" + f + ", " + i + ", " + what + ")", x.event(f, i, what), m.event(f, i, what));
            }
        }
    }

    private void step() {
        switch (random.nextInt(9)) {
            case 0:
                tell(random.nextBoolean() ? text() : spoilt(text()));
                break;
            case 1:
                sheet();
                break;
            case 2:
                keep();
                break;
            case 3:
            case 4:
                look();
                break;
            case 5:
                rule();
                break;
            default:
                change();
                break;
        }
    }

    // ---- fronts

    private int[] someEvents() {
        int[] cells = new int[60];
        int strands = 0;
        int crosses = 0;
        int limit = 2 + random.nextInt(29);
        int size = 0;
        int favoured = random.nextInt(4);
        while (size < limit && (size == 0 || strands > 0 || random.nextInt(5) == 0)) {
            int left = 30 - size;
            int kind = random.nextInt(4) < favoured ? 1 : random.nextInt(3);
            kind = strands == 0 ? 0 : kind;
            kind = kind == 1 && crosses == 12 ? 2 : kind;
            kind = kind == 0 && strands == 10 ? 2 : kind;
            kind = 2 * (limit - size) <= strands || 2 * left <= strands + 2 && strands > 0 ? 2 : kind;
            cells[2 * size] = kind;
            cells[2 * size + 1] = random.nextInt(kind == 0 ? strands + 1 : strands - 1);
            strands += 2 - 2 * kind;
            crosses += kind == 1 ? 1 : 0;
            size++;
        }
        while (strands > 0 && size < 30) {
            cells[2 * size] = 2;
            cells[2 * size + 1] = random.nextInt(strands - 1);
            strands -= 2;
            size++;
        }
        return java.util.Arrays.copyOf(cells, 2 * size);
    }

    private String text() {
        StringBuilder b = new StringBuilder();
        int[] cells = someEvents();
        boolean wide = cells.length < 30;
        for (int i = 0; i < cells.length; i += 2) {
            b.append(blanks(wide)).append("bxd".charAt(cells[i])).append(blanks(wide));
            b.append(wide && random.nextInt(5) == 0 ? "0" : "").append(cells[i + 1]);
        }
        return b.append(blanks(wide)).toString();
    }

    private String blanks(boolean wide) {
        return wide && random.nextInt(4) == 0 ? " ".repeat(1 + random.nextInt(2)) : "";
    }

    private String spoilt(String text) {
        StringBuilder b = new StringBuilder(text);
        for (int n = random.nextInt(3); n >= 0 && b.length() > 0; n--) {
            int at = random.nextInt(b.length());
            String any = "bxd0123456789   ?a/:\u0000\u00e2";
            switch (random.nextInt(4)) {
                case 0:
                    b.deleteCharAt(at);
                    break;
                case 1:
                    b.insert(at, any.charAt(random.nextInt(any.length())));
                    break;
                case 2:
                    b.setLength(at);
                    break;
                default:
                    b.setCharAt(at, any.charAt(random.nextInt(any.length())));
                    break;
            }
        }
        return b.toString();
    }

    private void tell(String text) {
        int had = m.count(2);
        due("end(0)", x.end(0), m.end(0));
        for (int at = 0; at < text.length(); at += 8) {
            long v = Checks.eightBytes(text, at);
            due("feed", x.feed(v), m.feed(v));
        }
        int n = random.nextInt(12) == 0 ? some(120) : Math.min(120, text.length());
        due("end(" + n + ") of " + had, x.end(n), m.end(n));
        if (random.nextInt(12) == 0) {
            long v = random.nextLong();
            due("feed", x.feed(v), m.feed(v));
        }
        due("count(2)", x.count(2), m.count(2));
        due("front() of '" + text + "'", x.front(), m.front());
        due("fault() of '" + text + "'", x.fault(), m.fault());
        due("count(2)", x.count(2), m.count(2));
    }

    private void sheet() {
        int k = some(4);
        int lane = some(3);
        int[] cells = someEvents();
        int n = random.nextInt(6) == 0 ? some(63) : Math.min(62, cells.length + random.nextInt(3));
        due("sheet", x.sheet(k, lane, n), m.sheet(k, lane, n));
        int from = random.nextInt(4) == 0 ? some(5) : 0;
        for (int i = 0; i < cells.length; i++) {
            int v = random.nextInt(40) == 0 ? cells[i] + (1 << 8 * (1 + random.nextInt(3))) : cells[i];
            v = random.nextInt(150) == 0 ? some(5) : v;
            due("lay", x.lay(k, from + i, v), m.lay(k, from + i, v));
        }
        int events = random.nextInt(6) == 0 ? some(31) : cells.length / 2;
        int as = random.nextInt(9) == 0 ? some(3) : lane;
        int of = random.nextInt(12) == 0 ? some(4) : k;
        due("draw", x.draw(of, as, from, events), m.draw(of, as, from, events));
        due("count(1)", x.count(1), m.count(1));
    }

    private void keep() {
        int f = someFront();
        int g = someFront();
        int what = some(3);
        due("copy", x.copy(f), m.copy(f));
        due("join(" + f + ", " + g + ")", x.join(f, g), m.join(f, g));
        due("unlike", x.unlike(f, g), m.unlike(f, g));
        due("count", x.count(what), m.count(what));
        for (int n = random.nextInt(4); n > 0; n--) {
            due("drop", x.drop(), m.drop());
        }
    }

    private void look() {
        int f = someFront();
        int i = someEvent(f);
        int k = some(10);
        int what = some(6);
        int piece = some(Math.max(1, m.about(f, 3)));
        int other = some(Math.max(1, m.about(f, 3)));
        due("event", x.event(f, i, what), m.event(f, i, what));
        due("about", x.about(f, what), m.about(f, what));
        due("piece", x.piece(f, i, k), m.piece(f, i, k));
        due("number", x.number(f, piece, what), m.number(f, piece, what));
        due("link", x.link(f, piece, other), m.link(f, piece, other));
        due("sign", x.sign(f, i), m.sign(f, i));
        due("degree", x.degree(f, i), m.degree(f, i));
    }

    private void rule() {
        int f = someFront();
        int sort = some(3);
        int n = random.nextInt(3) == 0 ? -1 : some(13);
        int i = some(Math.max(1, m.about(f, 1)));
        due("rulings", x.rulings(f, sort, n), m.rulings(f, sort, n));
        due("first", x.first(f, sort, i), m.first(f, sort, i));
    }

    private void change() {
        int f = someFront();
        int i = someEvent(f);
        int kind = some(5);
        int end = random.nextInt(10) == 0 ? m.about(f, 0) : i;
        int k = some(10);
        String where = "(" + f + ", " + kind + ", " + i + ")";
        due("move" + where, x.move(f, kind, i), m.move(f, kind, i));
        if (random.nextInt(3) == 0) {
            due("push" + where, x.push(f, kind % 2, i), m.push(f, kind % 2, i));
            due("push" + where, x.push(f, kind, i), m.push(f, kind, i));
        }
        if (random.nextInt(3) == 0) {
            due("add" + where, x.add(f, kind, end, k), m.add(f, kind, end, k));
        }
    }
}
