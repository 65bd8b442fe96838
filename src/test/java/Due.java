/** Holds what was answered against what is due, and ends a test by its exit code. */
final class Due {
    static final int BAD = -1, FULL = -2, FINDING = -3, STATE = -4, NONE = -9;
    static final int NOTHING = 1, BEYOND = 2, UNLIKE = 3, NOUGHT = 4, SIZE = 5;

    private int looked = 0;
    private int wrong = 0;

    void is(String call, long got, long want) {
        looked++;
        if (got != want) {
            wrong++;
            System.out.println(call + " answered " + got + ", due is " + want);
        }
    }

    /** A call that tells by asked(): it answers, and asked() is then. */
    void tells(KissClearing x, String call, long got, long want, long asked) {
        is(call, got, want);
        is(call + ", asked()", x.asked(), asked);
    }

    /** A call that is refused by a finding: finding() and findings() say so, and nothing else changes. */
    void finds(KissClearing x, String call, java.util.function.IntSupplier made, int finding) {
        long digest = x.digest();
        int asked = x.asked();
        int before = x.findings(finding);
        is(call, made.getAsInt(), FINDING);
        is(call + ", finding()", x.finding(), finding);
        is(call + ", findings(" + finding + ")", x.findings(finding), before + 1);
        is(call + ", digest()", x.digest(), digest);
        is(call + ", asked()", x.asked(), asked);
    }

    /** A call that is refused without a finding: nothing changes. */
    void refuses(KissClearing x, String call, java.util.function.IntSupplier made, int refusal) {
        long digest = x.digest();
        int asked = x.asked();
        int finding = x.finding();
        is(call, made.getAsInt(), refusal);
        is(call + ", finding()", x.finding(), finding);
        is(call + ", digest()", x.digest(), digest);
        is(call + ", asked()", x.asked(), asked);
    }

    void end() {
        System.out.println(wrong == 0 ? looked + " answers are as due" : wrong + " of " + looked + " answers are not as due");
        if (wrong != 0) {
            System.exit(1);
        }
    }

    static void write(KissClearing x, int t, String text) {
        x.text(t, text.length());
        for (int i = 0; i < text.length(); i++) {
            x.put(t, i, text.charAt(i));
        }
    }

    static void fill(KissClearing x, int r, int... values) {
        x.row(r, values.length);
        for (int i = 0; i < values.length; i++) {
            x.lay(r, i, values[i]);
        }
    }

    /** A new object with a village by a text (which stands in text 3). */
    static KissClearing village(String text) {
        KissClearing x = new KissClearing();
        write(x, 3, text);
        if (x.village(3) < 2) {
            throw new IllegalStateException("no village: " + text);
        }
        return x;
    }
}
