/** What the tests share: answers that are due, and texts and sheets laid before an object. */
final class Checks {
    static final int BIRTH = 0, CROSS = 1, DEATH = 2;

    private final String name;
    private int asked = 0;
    private int wrong = 0;

    Checks(String name) {
        this.name = name;
    }

    void due(String call, long got, long want) {
        asked++;
        if (got != want) {
            wrong++;
            System.out.println(name + ": " + call + " answered " + got + ", due is " + want);
        }
    }

    void holds(String what, boolean so) {
        asked++;
        if (!so) {
            wrong++;
            System.out.println(name + ": it does not hold that " + what);
        }
    }

    void finish() {
        System.out.println(asked + " checks, " + wrong + " wrong");
        if (wrong != 0 || asked == 0) {
            System.exit(1);
        }
    }

    /** Lays a text on the tape, which is empty, and answers how many bytes are there. */
    static int tape(CornerFronts x, String text) {
        for (int at = 0; at < text.length(); at += 8) {
            x.feed(eightBytes(text, at));
        }
        x.end(text.length());
        return x.count(2);
    }

    static long eightBytes(String text, int at) {
        long v = 0;
        for (int i = 0; i < 8; i++) {
            int c = at + i < text.length() ? text.charAt(at + i) : ' ';
            v = v << 8 | c & 255;
        }
        return v;
    }

    static int front(CornerFronts x, String text) {
        tape(x, text);
        return x.front();
    }

    /** A new object with these fronts. */
    static CornerFronts with(String... texts) {
        CornerFronts x = new CornerFronts();
        for (String text : texts) {
            if (front(x, text) < 0) {
                throw new IllegalStateException("no front: " + text);
            }
        }
        return x;
    }

    /** The text of a front, as its calls tell it. */
    static String text(CornerFronts x, int f) {
        StringBuilder b = new StringBuilder();
        int events = x.about(f, 0);
        for (int i = 0; i < events; i++) {
            b.append("bxd".charAt(x.event(f, i, 0))).append(x.event(f, i, 1));
        }
        return b.toString();
    }

    void dueText(String what, CornerFronts x, int f, String want) {
        String got = text(x, f);
        asked++;
        if (!got.equals(want)) {
            wrong++;
            System.out.println(name + ": " + what + " is " + got + ", due is " + want);
        }
    }

    static String times(String part, int n) {
        return part.repeat(n);
    }
}
