/** Promises 34 and 35: gain, trust. */
public final class RatesTest {
    private static final Due due = new Due();

    public static void main(String[] args) {
        gain();
        gainRefused();
        trust();
        trustRefused();
        due.end();
    }

    private static void gains(int want, int... rates) {
        KissClearing x = new KissClearing();
        Due.fill(x, 2, rates);
        due.is("gain of " + java.util.Arrays.toString(rates), x.gain(2), want);
    }

    private static void gain() {
        gains(Due.NONE, 100, 100, 100, 100, 100, 100);
        gains(Due.NONE, 1, 1, 1, 1, 1, 1);
        gains(0, 101, 100, 100, 100, 100, 100);
        gains(0, 100, 100, 101, 100, 100, 100);
        gains(1, 100, 101, 100, 100, 100, 100);
        gains(1, 100, 100, 100, 100, 101, 100);
        gains(2, 100, 100, 100, 101, 100, 100);
        gains(2, 100, 100, 100, 100, 100, 101);
        gains(0, 9999, 9999, 9999, 9999, 9999, 9999);
        gains(1, 9999, 9999, 1, 9999, 9999, 9999);
        gains(2, 9999, 9999, 1, 9999, 1, 9999);
        gains(3, 9999, 1, 1, 9999, 9999, 1);
        gains(4, 1, 9999, 9999, 1, 1, 9999);
        gains(3, 200, 90, 50, 200, 100, 50);
        gains(4, 50, 200, 200, 50, 50, 200);
        gains(Due.NONE, 50, 100, 100, 200, 100, 50);
        gains(3, 50, 99, 100, 201, 100, 49);
    }

    private static void gainRefused() {
        KissClearing x = new KissClearing();
        due.refuses(x, "gain(6)", () -> x.gain(6), Due.BAD);
        due.refuses(x, "gain(-1)", () -> x.gain(-1), Due.BAD);
        due.finds(x, "gain(0)", () -> x.gain(0), Due.NOTHING);
        Due.fill(x, 0, 0, 0, 0, 0, 0);
        due.finds(x, "gain of five: SIZE is ahead of UNLIKE", () -> x.gain(0), Due.SIZE);
        Due.fill(x, 0, 1, 1, 1, 1, 1, 1, 1);
        due.finds(x, "gain of seven", () -> x.gain(0), Due.SIZE);
        for (int i = 0; i < 6; i++) {
            KissClearing y = new KissClearing();
            Due.fill(y, 0, 9999, 9999, 9999, 9999, 9999, 9999);
            y.lay(0, i, 0);
            due.finds(y, "gain with 0 at " + i, () -> y.gain(0), Due.UNLIKE);
            y.lay(0, i, 10000);
            due.finds(y, "gain with 10000 at " + i, () -> y.gain(0), Due.UNLIKE);
            y.lay(0, i, -100);
            due.finds(y, "gain with -100 at " + i, () -> y.gain(0), Due.UNLIKE);
        }
    }

    private static void trust() {
        KissClearing x = Due.village("pppppp x01h1 x12c1 x23t1 x34h1 x05h1 x50h1");
        due.is("trust(0, 1)", x.trust(0, 1), 1);
        due.is("trust(0, 2)", x.trust(0, 2), 2);
        due.is("trust(0, 3)", x.trust(0, 3), 3);
        due.is("trust(0, 4): four are too many", x.trust(0, 4), Due.NONE);
        due.is("trust(1, 0)", x.trust(1, 0), Due.NONE);
        due.is("trust(5, 2)", x.trust(5, 2), 3);
        x.owe(20, 1);
        due.is("trust(0, 4) by a shorter way", x.trust(0, 4), 3);
        due.is("trust(0, 2) by a shorter way", x.trust(0, 2), 1);
        x.meet(3, 4);
        due.is("trust(0, 4) when one is paid", x.trust(0, 4), Due.NONE);
        due.is("asked() behind trust()", x.asked(), 0);
    }

    private static void trustRefused() {
        KissClearing x = Due.village("pp x01h1");
        due.refuses(x, "trust(0, 0)", () -> x.trust(0, 0), Due.BAD);
        due.refuses(x, "trust(0, 2)", () -> x.trust(0, 2), Due.BAD);
        due.refuses(x, "trust(-1, 1)", () -> x.trust(-1, 1), Due.BAD);
    }
}
