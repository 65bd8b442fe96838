import java.util.function.IntSupplier;

/** Holds what was answered against what is due, and ends a test by its exit code. */
final class Due {
    static final int BAD = -1, FULL = -2, FINDING = -3, STATE = -4, NONE = -9;
    static final int NOTHING = 1, BEYOND = 2, UNLIKE = 3, NOUGHT = 4, SIZE = 5;
    static final int MIN = Integer.MIN_VALUE, MAX = Integer.MAX_VALUE;

    private final String about;
    private int looked = 0;
    private int wrong = 0;

    Due() {
        this("");
    }

    /** What the test is about is told with each answer that is wrong. */
    Due(String about) {
        this.about = about.isEmpty() ? "" : about + ": ";
    }

    int looked() {
        return looked;
    }

    int wrong() {
        return wrong;
    }

    void is(String call, long got, long want) {
        looked++;
        if (got != want) {
            wrong++;
            System.out.println(about + call + " answered " + got + ", due is " + want);
        }
    }

    /** A call that tells by asked(): it answers, and asked() is then. */
    void tells(KissClearing x, String call, long got, long want, long asked) {
        is(call, got, want);
        is(call + ", asked()", x.asked(), asked);
    }

    /** A call that is refused by a finding: finding() and findings() say so, and nothing else changes. */
    void finds(KissClearing x, String call, IntSupplier made, int finding) {
        long[] before = seen(x);
        int[] times = times(x);
        is(call, made.getAsInt(), FINDING);
        is(call + ", finding()", x.finding(), finding);
        times[finding]++;
        unchanged(x, call, before, times);
    }

    /** A call that is refused without a finding: nothing changes. */
    void refuses(KissClearing x, String call, IntSupplier made, int refusal) {
        long[] before = seen(x);
        int[] times = times(x);
        int finding = x.finding();
        is(call, made.getAsInt(), refusal);
        is(call + ", finding()", x.finding(), finding);
        unchanged(x, call, before, times);
    }

    private static long[] seen(KissClearing x) {
        return new long[] {x.digest(), x.asked(), x.upper(), x.lower()};
    }

    private static int[] times(KissClearing x) {
        int[] times = new int[SIZE + 1];
        for (int f = NOTHING; f <= SIZE; f++) {
            times[f] = x.findings(f);
        }
        return times;
    }

    private void unchanged(KissClearing x, String call, long[] before, int[] times) {
        String[] names = {"digest()", "asked()", "upper()", "lower()"};
        long[] now = seen(x);
        for (int i = 0; i < names.length; i++) {
            is(call + ", " + names[i], now[i], before[i]);
        }
        for (int f = NOTHING; f <= SIZE; f++) {
            is(call + ", findings(" + f + ")", x.findings(f), times[f]);
        }
    }

    /** The ints of a row, and no more of them. */
    void holds(KissClearing x, String when, int r, int... wants) {
        for (int i = 0; i < wants.length; i++) {
            tells(x, "place " + i + " of row " + r + " " + when, x.at(r, i), 1, wants[i]);
        }
        finds(x, "the place behind row " + r + " " + when, () -> x.at(r, wants.length), BEYOND);
    }

    /** The kisses of all drafts, and no more of these. */
    void kisses(KissClearing x, String when, int... wants) {
        is("drafts " + when, x.count(1), wants.length);
        for (int i = 0; i < wants.length; i++) {
            tells(x, "kisses of draft " + i + " " + when, x.draft(i, 3), 1, wants[i]);
        }
    }

    void end() {
        System.out.println(wrong == 0 ? looked + " answers are as due" : wrong + " of " + looked + " answers are not as due");
        if (wrong != 0) {
            System.exit(1);
        }
    }

    static void write(KissClearing x, int t, String text) {
        x.text(t, text.length());
        for (int i = 0; i < text.length(); i++) {
            x.put(t, i, text.charAt(i));
        }
    }

    static void fill(KissClearing x, int r, int... values) {
        x.row(r, values.length);
        for (int i = 0; i < values.length; i++) {
            x.lay(r, i, values[i]);
        }
    }

    /** A new object with a village by a text (which stands in text 3). */
    static KissClearing village(String text) {
        KissClearing x = new KissClearing();
        write(x, 3, text);
        if (x.village(3) < 2) {
            throw new IllegalStateException("no village: " + text);
        }
        return x;
    }

    /** A village whose 40 deeds are done: p and q, who must owe one another nothing, met till then. */
    static KissClearing full(KissClearing x, int p, int q) {
        for (int i = x.count(2); i < 40; i++) {
            x.meet(p, q);
        }
        return x;
    }
}
