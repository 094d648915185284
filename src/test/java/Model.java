import java.util.ArrayList;
import java.util.List;

/**
 * A second program for the same document, made otherwise on purpose: strands are
 * followed gap by gap, every set of switched crosses is tried, moves are looked up
 * as written-out patterns, and the faults of sheets are those of the machine.
 */
final class Model {
    private final StringBuilder tape = new StringBuilder();
    private final Object[] sheets = new Object[4];
    private final List<List<int[]>> fronts = new ArrayList<>();
    private int fault = 0;

    // ---- the tape

    int feed(long v) {
        if (tape.length() + 8 > 120) {
            return -3;
        }
        for (int i = 7; i >= 0; i--) {
            tape.append((char) (v >>> 8 * i & 255));
        }
        return tape.length();
    }

    int end(int n) {
        if (n < 0 || n > tape.length()) {
            return -1;
        }
        int had = tape.length();
        tape.setLength(n);
        return had;
    }

    private static final class Fault extends Exception {
        private static final long serialVersionUID = 1;
        final int kind;
        final int place;

        Fault(int kind, int place) {
            this.kind = kind;
            this.place = place;
        }
    }

    private int at;

    /** The next token: a letter, figures, or "" at the end. */
    private String token(String text) throws Fault {
        while (at < text.length() && text.charAt(at) == ' ') {
            at++;
        }
        String rest = text.substring(at);
        if (rest.isEmpty()) {
            return "";
        }
        String figures = rest.replaceFirst("(?s)[^0-9].*", "");
        if (figures.length() > 2) {
            throw new Fault(1, at);
        }
        if (!figures.isEmpty()) {
            return figures;
        }
        if ("bxd".indexOf(rest.charAt(0)) < 0) {
            throw new Fault(1, at);
        }
        return rest.substring(0, 1);
    }

    private List<int[]> parse(String text) throws Fault {
        List<int[]> events = new ArrayList<>();
        at = 0;
        while (true) {
            String letter = token(text);
            if (letter.isEmpty() && !events.isEmpty() && strands(events, events.size()) == 0) {
                return events;
            }
            if (letter.isEmpty() || Character.isDigit(letter.charAt(0))) {
                throw new Fault(2, at);
            }
            int kind = "bxd".indexOf(letter);
            if (tooMany(events, kind)) {
                throw new Fault(4, at);
            }
            at++;
            String number = token(text);
            if (number.isEmpty() || !Character.isDigit(number.charAt(0))) {
                throw new Fault(2, at);
            }
            if (!stands(events, kind, Integer.parseInt(number))) {
                throw new Fault(3, at);
            }
            at += number.length();
            events.add(new int[] {kind, Integer.parseInt(number)});
        }
    }

    int front() {
        if (fronts.size() == 8) {
            return -3;
        }
        String text = tape.toString();
        tape.setLength(0);
        try {
            fronts.add(parse(text));
            fault = 0;
            return fronts.size() - 1;
        } catch (Fault f) {
            fault = f.kind;
            return -10 - f.place;
        }
    }

    int fault() {
        return fault;
    }

    private static int strands(List<int[]> events, int i) {
        int n = 0;
        for (int[] e : events.subList(0, i)) {
            n += 2 - 2 * e[0];
        }
        return n;
    }

    private static boolean stands(List<int[]> events, int kind, int k) {
        int n = strands(events, events.size());
        return k >= 0 && (kind == 0 ? k <= n : (long) k + 1 < n);
    }

    private static boolean tooMany(List<int[]> events, int kind) {
        return events.size() == 30
            || kind == 1 && crosses(events) == 12
            || kind == 0 && strands(events, events.size()) == 10;
    }

    private static int crosses(List<int[]> events) {
        return (int) events.stream().filter(e -> e[0] == 1).count();
    }

    // ---- sheets

    int sheet(int k, int lane, int n) {
        if (k < 0 || k > 3 || lane < 0 || lane > 2 || n > 62) {
            return -1;
        }
        try {
            sheets[k] = lane == 0 ? new byte[n] : lane == 1 ? new short[n] : (Object) new int[n];
            return 1;
        } catch (NegativeArraySizeException e) {
            return -14;
        }
    }

    int lay(int k, int i, int v) {
        if (k < 0 || k > 3) {
            return -1;
        }
        if (sheets[k] == null) {
            return -11;
        }
        try {
            if (sheets[k] instanceof byte[]) {
                ((byte[]) sheets[k])[i] = (byte) v;
            } else if (sheets[k] instanceof short[]) {
                ((short[]) sheets[k])[i] = (short) v;
            } else {
                ((int[]) sheets[k])[i] = v;
            }
            return 1;
        } catch (ArrayIndexOutOfBoundsException e) {
            return -12;
        }
    }

    private static int cell(Object sheet, int lane, int i) {
        return lane == 0 ? ((byte[]) sheet)[i] : lane == 1 ? ((short[]) sheet)[i] : ((int[]) sheet)[i];
    }

    int draw(int k, int lane, int f, int n) {
        if (k < 0 || k > 3 || lane < 0 || lane > 2 || n < 1 || n > 30) {
            return -1;
        }
        List<int[]> events = new ArrayList<>();
        try {
            for (int i = 0; i < n; i++) {
                int kind = cell(sheets[k], lane, f + 2 * i);
                int place = cell(sheets[k], lane, f + 2 * i + 1);
                if (kind < 0 || kind > 2 || tooMany(events, kind) || !stands(events, kind, place)) {
                    return -20 - i;
                }
                events.add(new int[] {kind, place});
            }
        } catch (NullPointerException e) {
            return -11;
        } catch (ClassCastException e) {
            return -13;
        } catch (ArrayIndexOutOfBoundsException e) {
            return -12;
        }
        return strands(events, n) != 0 ? -50 : keep(events);
    }

    private int keep(List<int[]> events) {
        if (fronts.size() == 8) {
            return -3;
        }
        fronts.add(new ArrayList<>(events));
        return fronts.size() - 1;
    }

    // ---- fronts

    private boolean has(int f) {
        return f >= 0 && f < fronts.size();
    }

    private boolean has(int f, int i) {
        return has(f) && i >= 0 && i < fronts.get(f).size();
    }

    int copy(int f) {
        return has(f) ? keep(fronts.get(f)) : -1;
    }

    int drop() {
        if (fronts.isEmpty()) {
            return -4;
        }
        fronts.remove(fronts.size() - 1);
        return fronts.size();
    }

    int event(int f, int i, int what) {
        if (!has(f, i) || what < 0 || what > 2) {
            return -1;
        }
        return what == 2 ? strands(fronts.get(f), i) : fronts.get(f).get(i)[what];
    }

    int about(int f, int what) {
        if (!has(f) || what < 0 || what > 5) {
            return -1;
        }
        List<int[]> events = fronts.get(f);
        int most = 0;
        int deaths = 0;
        int plus = 0;
        Walk walk = new Walk(events);
        for (int i = 0; i < events.size(); i++) {
            most = Math.max(most, strands(events, i));
            deaths += events.get(i)[0] == 2 ? 1 : 0;
            plus += events.get(i)[0] == 1 && walk.sign(i) > 0 ? 1 : 0;
        }
        return new int[] {events.size(), crosses(events), deaths, walk.births.size(), most, plus}[what];
    }

    /** Goes along the strands of one front, from gap to gap; gap i lies ahead of event i. */
    private static final class Walk {
        final List<int[]> events;
        final int[][] piece;
        final int[][] heading;
        final int[][] level;
        final List<Integer> births = new ArrayList<>();
        final List<Integer> downs = new ArrayList<>();
        final List<Integer> ups = new ArrayList<>();

        Walk(List<int[]> events) {
            this.events = events;
            int n = events.size();
            piece = new int[n + 1][12];
            heading = new int[n + 1][12];
            level = new int[n + 1][12];
            for (int i = 0; i < n; i++) {
                int k = events.get(i)[1];
                if (events.get(i)[0] == 0 && heading[i + 1][k + 1] == 0) {
                    go(i, k + 1);
                }
            }
        }

        private void go(int birth, int start) {
            births.add(birth);
            int down = 0;
            int up = 0;
            int gap = birth + 1;
            int s = start;
            int side = 1;
            int height = 0;
            do {
                piece[gap][s] = births.size() - 1;
                heading[gap][s] = side;
                level[gap][s] = height;
                int kind = events.get(side > 0 ? gap : gap - 1)[0];
                int k = events.get(side > 0 ? gap : gap - 1)[1];
                boolean corner = (s == k || s == k + 1) && kind == (side > 0 ? 2 : 0);
                if (corner) {
                    down += s == k + 1 ? 1 : 0;
                    up += s == k ? 1 : 0;
                    height += s == k ? 1 : -1;
                    s = 2 * k + 1 - s;
                    side = -side;
                } else {
                    if (kind == 1 && (s == k || s == k + 1)) {
                        s = 2 * k + 1 - s;
                    } else if (kind == 0 && side > 0 && s >= k || kind == 2 && side < 0 && s >= k) {
                        s += 2;
                    } else if (kind != 1 && s >= k) {
                        s -= 2;
                    }
                    gap += side;
                }
            } while (gap != birth + 1 || s != start || side != 1);
            downs.add(down);
            ups.add(up);
        }

        int sign(int i) {
            int k = events.get(i)[1];
            return heading[i][k] == heading[i][k + 1] ? 1 : -1;
        }

        int turn(int p) {
            return (downs.get(p) - ups.get(p)) / 2;
        }

        int signs(int p, int q) {
            int sum = 0;
            for (int i = 0; i < events.size(); i++) {
                int k = events.get(i)[1];
                if (events.get(i)[0] == 1) {
                    int low = piece[i][k];
                    int high = piece[i][k + 1];
                    sum += low == p && high == q || low == q && high == p ? sign(i) : 0;
                }
            }
            return sum;
        }

        int degree(int i) {
            int k = events.get(i)[1];
            int d = level[i][k + 1] - level[i][k];
            int m = 2 * Math.abs(turn(0));
            return m == 0 ? d : (d % m + m) % m;
        }
    }

    int piece(int f, int i, int k) {
        if (!has(f, i) || k < 0 || k >= strands(fronts.get(f), i)) {
            return -1;
        }
        return new Walk(fronts.get(f)).piece[i][k];
    }

    int number(int f, int piece, int what) {
        if (!has(f) || what < 0 || what > 4) {
            return -1000;
        }
        Walk walk = new Walk(fronts.get(f));
        if (piece < 0 || piece >= walk.births.size()) {
            return -1000;
        }
        int deaths = 0;
        for (int i = 0; i < walk.events.size(); i++) {
            int[] e = walk.events.get(i);
            deaths += e[0] == 2 && walk.piece[i][e[1]] == piece ? 1 : 0;
        }
        int writhe = walk.signs(piece, piece);
        int corners = walk.downs.get(piece) + walk.ups.get(piece);
        return new int[] {writhe, writhe - deaths, walk.turn(piece), corners, walk.births.get(piece)}[what];
    }

    int link(int f, int piece, int other) {
        if (!has(f)) {
            return -1000;
        }
        Walk walk = new Walk(fronts.get(f));
        int n = walk.births.size();
        if (piece < 0 || piece >= n || other < 0 || other >= n || piece == other) {
            return -1000;
        }
        return walk.signs(piece, other) / 2;
    }

    int sign(int f, int i) {
        if (!has(f, i) || fronts.get(f).get(i)[0] != 1) {
            return -1;
        }
        return new Walk(fronts.get(f)).sign(i) > 0 ? 1 : 0;
    }

    int degree(int f, int i) {
        if (!has(f, i) || fronts.get(f).get(i)[0] != 1) {
            return -1000;
        }
        Walk walk = new Walk(fronts.get(f));
        return walk.births.size() > 1 ? -1002 : walk.degree(i);
    }

    // ---- rulings

    /** Strands bear the names of their pairs; bit j of the set switches the j-th cross. */
    private static boolean rules(Walk walk, int sort, int set) {
        List<Integer> names = new ArrayList<>();
        int met = 0;
        for (int i = 0; i < walk.events.size(); i++) {
            int kind = walk.events.get(i)[0];
            int k = walk.events.get(i)[1];
            if (kind == 0) {
                names.add(k, 100 + i);
                names.add(k, 100 + i);
                continue;
            }
            Integer low = names.get(k);
            Integer high = names.get(k + 1);
            if (kind == 2) {
                if (!low.equals(high)) {
                    return false;
                }
                names.remove(k);
                names.remove(k);
                continue;
            }
            boolean switched = (set >> met & 1) == 1;
            met++;
            if (low.equals(high)) {
                return false;
            }
            if (!switched) {
                names.set(k, high);
                names.set(k + 1, low);
                continue;
            }
            if (sort == 1 && walk.sign(i) < 0 || sort == 2 && walk.degree(i) != 0) {
                return false;
            }
            int inside = 0;
            for (int s = names.indexOf(low); s <= names.lastIndexOf(low); s++) {
                inside += names.get(s).equals(high) ? 1 : 0;
            }
            if (inside == 1) {
                return false;
            }
        }
        return true;
    }

    int rulings(int f, int sort, int n) {
        if (!has(f) || sort < 0 || sort > 2 || n < -1) {
            return -1;
        }
        Walk walk = new Walk(fronts.get(f));
        if (sort == 2 && walk.births.size() > 1) {
            return -2;
        }
        int found = 0;
        for (int set = 0; set < 1 << crosses(walk.events); set++) {
            if ((n == -1 || Integer.bitCount(set) == n) && rules(walk, sort, set)) {
                found++;
            }
        }
        return found;
    }

    int first(int f, int sort, int i) {
        if (!has(f) || sort < 0 || sort > 2 || i < 0 || i >= crosses(fronts.get(f))) {
            return -1;
        }
        Walk walk = new Walk(fronts.get(f));
        if (sort == 2 && walk.births.size() > 1) {
            return -2;
        }
        int crosses = crosses(walk.events);
        for (int order = 0; order < 1 << crosses; order++) {
            int set = crosses == 0 ? 0 : Integer.reverse(order) >>> 32 - crosses;
            if (rules(walk, sort, set)) {
                return set >> i & 1;
            }
        }
        return -4;
    }

    // ---- moves

    private static final String[][] SLIDES = {{"x0x1x0", "x1x0x1"}, {"x1x0x1", "x0x1x0"}};
    private static final String[][] UNCURLS = {{"b1x0d1", ""}, {"b0x1d0", ""}};
    private static final String[][] PULLS = {
        {"b0x1x0", "b1"}, {"b1x0x1", "b0"}, {"x0x1d0", "d1"}, {"x1x0d1", "d0"}};
    private static final String[][] STRAIGHTENS = {{"b1d0", ""}, {"b0d1", ""}};
    private static final String[][] ADDS = {{"", "b1x0d1"}, {"", "b0x1d0"}, {"", "b1d0"}, {"", "b0d1"}};

    /** A pattern is written for k = 0. */
    private static List<int[]> pattern(String text, int k) {
        List<int[]> events = new ArrayList<>();
        for (int i = 0; i < text.length(); i += 2) {
            events.add(new int[] {"bxd".indexOf(text.charAt(i)), text.charAt(i + 1) - '0' + k});
        }
        return events;
    }

    private static boolean same(List<int[]> a, List<int[]> b) {
        if (a.size() != b.size()) {
            return false;
        }
        for (int i = 0; i < a.size(); i++) {
            if (a.get(i)[0] != b.get(i)[0] || a.get(i)[1] != b.get(i)[1]) {
                return false;
            }
        }
        return true;
    }

    private int replace(int f, int i, int gone, List<int[]> put) {
        List<int[]> then = new ArrayList<>(fronts.get(f));
        then.subList(i, i + gone).clear();
        then.addAll(i, put);
        int most = 0;
        for (int j = 0; j <= then.size(); j++) {
            most = Math.max(most, strands(then, j));
        }
        if (then.size() > 30 || crosses(then) > 12 || most > 10) {
            return -3;
        }
        fronts.set(f, then);
        return then.size();
    }

    int move(int f, int kind, int i) {
        if (!has(f, i) || kind < 0 || kind > 4) {
            return -1;
        }
        if (kind == 0) {
            return swap(f, i);
        }
        String[][] patterns = new String[][][] {SLIDES, UNCURLS, PULLS, STRAIGHTENS}[kind - 1];
        List<int[]> events = fronts.get(f);
        for (String[] p : patterns) {
            int n = p[0].length() / 2;
            for (int k = 0; k < 10 && i + n <= events.size(); k++) {
                if (same(events.subList(i, i + n), pattern(p[0], k))) {
                    return replace(f, i, n, pattern(p[1], k));
                }
            }
        }
        return -2;
    }

    private int swap(int f, int i) {
        if (i + 1 == fronts.get(f).size()) {
            return -2;
        }
        int[] e = fronts.get(f).get(i);
        int[] g = fronts.get(f).get(i + 1);
        int adds = 2 - 2 * e[0];
        int gAdds = 2 - 2 * g[0];
        List<int[]> put = new ArrayList<>();
        if (g[1] >= e[1] + (e[0] == 2 ? 0 : 2)) {
            put.add(new int[] {g[0], g[1] - adds});
            put.add(new int[] {e[0], e[1]});
        } else if (g[1] + (g[0] == 0 ? 0 : 2) <= e[1]) {
            put.add(new int[] {g[0], g[1]});
            put.add(new int[] {e[0], e[1] + gAdds});
        } else {
            return -2;
        }
        return replace(f, i, 2, put);
    }

    int add(int f, int kind, int i, int k) {
        if (!has(f) || kind < 0 || kind > 3 || i < 0 || i > fronts.get(f).size()) {
            return -1;
        }
        if (k < 0 || k >= strands(fronts.get(f), i)) {
            return -1;
        }
        return replace(f, i, 0, pattern(ADDS[kind][1], k));
    }

    int push(int f, int kind, int i) {
        if (!has(f, i) || kind < 0 || kind > 1) {
            return -1;
        }
        int what = fronts.get(f).get(i)[0];
        int k = fronts.get(f).get(i)[1];
        int needed = kind == 0 ? k - 1 : what == 0 ? k : k + 2;
        if (what == 1 || needed < 0 || needed >= strands(fronts.get(f), i)) {
            return -2;
        }
        String put = what == 0 ? kind == 0 ? "b0x1x0" : "b1x0x1" : kind == 0 ? "x0x1d0" : "x1x0d1";
        return replace(f, i, 1, pattern(put, kind == 0 ? k - 1 : k));
    }

    int join(int f, int g) {
        if (!has(f) || !has(g)) {
            return -1;
        }
        List<int[]> events = new ArrayList<>(fronts.get(f).subList(0, fronts.get(f).size() - 1));
        events.addAll(fronts.get(g).subList(1, fronts.get(g).size()));
        return events.size() > 30 || crosses(events) > 12 ? -3 : keep(events);
    }

    int unlike(int f, int g) {
        if (!has(f) || !has(g)) {
            return -1;
        }
        List<int[]> a = fronts.get(f);
        List<int[]> b = fronts.get(g);
        for (int i = 0; ; i++) {
            if (i == a.size() || i == b.size()) {
                return a.size() == b.size() ? -4 : i;
            }
            if (!same(a.subList(i, i + 1), b.subList(i, i + 1))) {
                return i;
            }
        }
    }

    int count(int what) {
        switch (what) {
            case 0:
                return fronts.size();
            case 1:
                return sheets[0] == null ? -4 : java.lang.reflect.Array.getLength(sheets[0]);
            case 2:
                return tape.length();
            default:
                return -1;
        }
    }
}
