import java.util.Arrays;

/** Promises 34 to 39, sentence by sentence: gain, trust, blushes, sure, odds, lots. */
public final class EdgesOfRatesTest {
    private static final int[] NO_ROWS = {-1, 6, Due.MIN, Due.MAX};
    private static final int[] NOBODY_OF_TWO = {-1, 2, 6, Due.MIN, Due.MAX};

    public static void main(String[] args) {
        look().end();
    }

    static Edges look() {
        Edges edges = new Edges();
        gain(edges);
        gainRefused(edges);
        trust(edges);
        blushes(edges);
        blushesRefused(edges);
        sure(edges);
        odds(edges);
        lots(edges);
        lotsRefused(edges);
        edges.wholly(34, 39);
        return edges;
    }

    private static void gains(Due due, int want, int... rates) {
        KissClearing x = new KissClearing();
        Due.fill(x, 5, rates);
        due.is("gain of " + Arrays.toString(rates), x.gain(5), want);
        due.holds(x, "which stays", 5, rates);
    }

    private static void gain(Edges edges) {
        edges.of(34, "By RATES in a ROW of six (what one HAND is in CHEEKS, in TRUE ones, a CHEEK in HANDS, in TRUE ones, "
                + "a TRUE one in HANDS, in CHEEKS; each 100 times, 1 .. 9999)", due -> {
            gains(due, Due.NONE, 1, 1, 1, 1, 1, 1);
            gains(due, 0, 9999, 9999, 9999, 9999, 9999, 9999);
            gains(due, Due.NONE, 9999, 1, 1, 1, 1, 1);
            gains(due, Due.NONE, 1, 1, 1, 1, 9999, 1);
            gains(due, 0, 9999, 1, 2, 1, 1, 1);
            gains(due, 1, 1, 2, 1, 1, 9999, 1);
            gains(due, 2, 1, 1, 1, 2, 1, 9999);
        });
        edges.of(34, "whether one gains in a ring (of two or three SORTS, by whole products): the first of these: 0 HAND and CHEEK",
                due -> {
            gains(due, Due.NONE, 50, 1, 200, 1, 1, 1);
            gains(due, 0, 51, 1, 200, 1, 1, 1);
            gains(due, 0, 73, 1, 137, 1, 1, 1);
            gains(due, Due.NONE, 99, 1, 101, 1, 1, 1);
            gains(due, 0, 101, 101, 100, 101, 100, 100);
        });
        edges.of(34, "1 HAND and TRUE", due -> {
            gains(due, Due.NONE, 1, 50, 1, 1, 200, 1);
            gains(due, 1, 1, 73, 1, 1, 137, 1);
            gains(due, Due.NONE, 1, 99, 1, 1, 101, 1);
            gains(due, 1, 100, 101, 100, 101, 100, 100);
        });
        edges.of(34, "2 CHEEK and TRUE", due -> {
            gains(due, Due.NONE, 1, 1, 1, 50, 1, 200);
            gains(due, 2, 1, 1, 1, 73, 1, 137);
            gains(due, Due.NONE, 1, 1, 1, 99, 1, 101);
            gains(due, 2, 100, 100, 100, 101, 100, 100);
        });
        edges.of(34, "3 HAND to CHEEK to TRUE", due -> {
            gains(due, Due.NONE, 50, 1, 1, 200, 100, 1);
            gains(due, 3, 50, 1, 1, 200, 101, 1);
            gains(due, Due.NONE, 99, 1, 1, 101, 100, 1);
            gains(due, 3, 9999, 1, 1, 9999, 9999, 1);
            gains(due, 3, 200, 80, 50, 200, 120, 50);
            gains(due, 3, 1, 1, 1, 101, 9901, 1);
        });
        edges.of(34, "4 HAND to TRUE to CHEEK (and back to the first each)", due -> {
            gains(due, Due.NONE, 1, 50, 100, 1, 1, 200);
            gains(due, 4, 1, 50, 101, 1, 1, 200);
            gains(due, Due.NONE, 1, 99, 100, 1, 1, 101);
            gains(due, 4, 1, 9999, 9999, 1, 1, 9999);
            gains(due, 4, 1, 1, 9901, 1, 1, 101);
        });
    }

    private static void gainRefused(Edges edges) {
        edges.of(34, "NONE: by none", due -> {
            KissClearing x = new KissClearing();
            Due.fill(x, 0, 100, 100, 100, 100, 100, 100);
            due.refuses(x, "gain(0) of even ones", () -> x.gain(0), Due.NONE);
            Due.fill(x, 0, 50, 25, 200, 50, 400, 200);
            due.refuses(x, "gain(0) of rates that fit", () -> x.gain(0), Due.NONE);
            Due.fill(x, 0, 49, 24, 199, 49, 399, 199);
            due.refuses(x, "gain(0) of rates by which one loses", () -> x.gain(0), Due.NONE);
        });
        edges.of(34, "BAD", due -> {
            KissClearing x = new KissClearing();
            for (int r : NO_ROWS) {
                due.refuses(x, "gain(" + r + ")", () -> x.gain(r), Due.BAD);
            }
        });
        edges.of(34, "NOTHING", due -> {
            KissClearing x = new KissClearing();
            for (int r = 0; r < 6; r++) {
                int row = r;
                due.finds(x, "gain(" + r + ")", () -> x.gain(row), Due.NOTHING);
            }
        });
        edges.of(34, "SIZE: not six", due -> {
            KissClearing x = new KissClearing();
            for (int n : new int[] {0, 1, 5, 7, 40}) {
                x.row(0, n);
                due.finds(x, "gain of " + n + ", SIZE ahead of UNLIKE", () -> x.gain(0), Due.SIZE);
            }
            Due.fill(x, 0, 100, 100, 100, 100, 100);
            due.finds(x, "gain of five", () -> x.gain(0), Due.SIZE);
            Due.fill(x, 0, 100, 100, 100, 100, 100, 101, 100);
            due.finds(x, "gain of seven", () -> x.gain(0), Due.SIZE);
        });
        edges.of(34, "UNLIKE", due -> {
            for (int no : new int[] {0, -1, 10000, Due.MIN, Due.MAX}) {
                KissClearing x = new KissClearing();
                for (int i = 0; i < 6; i++) {
                    Due.fill(x, 0, 9999, 9999, 9999, 9999, 9999, 9999);
                    x.lay(0, i, no);
                    due.finds(x, "gain with " + no + " at " + i, () -> x.gain(0), Due.UNLIKE);
                }
            }
        });
    }

    private static void trust(Edges edges) {
        edges.of(35, "How a PERSON comes to trust another one: by fewest OPEN DRAFTS, each TO WHOM the next one owes, "
                + "from WHO the first one to TO WHOM the last one", due -> {
            KissClearing x = Due.village("pppppp x01h1 x12c1 x23t1 x02h9 x50h1");
            due.is("trust(0, 1)", x.trust(0, 1), 1);
            due.is("trust(0, 2): one, not two", x.trust(0, 2), 1);
            due.is("trust(0, 3): two, not three", x.trust(0, 3), 2);
            due.is("trust(5, 3)", x.trust(5, 3), 3);
            due.is("trust(1, 0): not back", x.trust(1, 0), Due.NONE);
            x.meet(0, 2);
            due.is("trust(0, 2) when the one is paid", x.trust(0, 2), 2);
            x.meet(0, 1);
            due.is("trust(0, 2) when both are paid", x.trust(0, 2), Due.NONE);
        });
        edges.of(35, "(3 at most): how many", due -> {
            KissClearing x = Due.village("pppppp x01h1 x12h1 x23h1 x34h1 x45h1");
            int[] wants = {0, 1, 2, 3, Due.NONE, Due.NONE};
            for (int q = 1; q < 6; q++) {
                due.is("trust(0, " + q + ")", x.trust(0, q), wants[q]);
            }
            due.is("trust(2, 5)", x.trust(2, 5), 3);
            due.is("asked(), which trust() does not tell by", x.asked(), 0);
        });
        edges.of(35, "NONE", due -> {
            KissClearing x = Due.village("ppp x01h1");
            due.refuses(x, "trust(1, 0)", () -> x.trust(1, 0), Due.NONE);
            due.refuses(x, "trust(0, 2)", () -> x.trust(0, 2), Due.NONE);
            KissClearing y = Due.village("ppp");
            due.refuses(y, "trust(0, 1) of no drafts", () -> y.trust(0, 1), Due.NONE);
        });
        edges.of(35, "BAD", due -> {
            KissClearing x = Due.village("pp x01h1");
            for (int p : NOBODY_OF_TWO) {
                due.refuses(x, "trust(" + p + ", 0)", () -> x.trust(p, 0), Due.BAD);
                due.refuses(x, "trust(0, " + p + ")", () -> x.trust(0, p), Due.BAD);
            }
            KissClearing none = new KissClearing();
            due.refuses(none, "trust(0, 1) of no persons", () -> none.trust(0, 1), Due.BAD);
        });
        edges.of(35, "BAD: also the same", due -> {
            KissClearing x = Due.village("ppp x01h1 x12h1 x20h1");
            due.refuses(x, "trust(0, 0)", () -> x.trust(0, 0), Due.BAD);
            due.refuses(x, "trust(2, 2)", () -> x.trust(2, 2), Due.BAD);
        });
    }

    private static void blush(Due due, KissClearing x, int sets, int first, int... row) {
        Due.fill(x, 0, row);
        due.tells(x, "blushes of " + Arrays.toString(row), x.blushes(0), sets, first);
    }

    private static void blushes(Edges edges) {
        edges.of(36, "Blushes: KISSES (all SORTS) that each PERSON gave or got, in a ROW (as many as PERSONS)", due -> {
            KissClearing x = Due.village("ppp x01h2 x12c3 x20t4");
            blush(due, x, 1, 1, 2, 2, 0);
            blush(due, x, 1, 2, 0, 3, 3);
            blush(due, x, 1, 4, 4, 0, 4);
            blush(due, x, 1, 7, 6, 5, 7);
            KissClearing six = Due.village("pppppp x05h9");
            blush(due, six, 1, 1, 9, 0, 0, 0, 0, 9);
        });
        edges.of(36, "how many sets of OPEN DRAFTS, each paid whole, make just these", due -> {
            KissClearing x = Due.village("pp x01h1 x10h1 x01c1 x10c1 x01t1 x10t1 x01h1 x10h1 x01c1 x10c1 x01t1 x10t1");
            blush(due, x, 1, 0, 0, 0);
            blush(due, x, 12, 1, 1, 1);
            blush(due, x, 924, 63, 6, 6);
            blush(due, x, 1, 4095, 12, 12);
            KissClearing y = Due.village("ppp x01h4 x12h4 x01t5");
            blush(due, y, 0, Due.NONE, 3, 3, 0);
            blush(due, y, 0, Due.NONE, 4, 3, 0);
            blush(due, y, 0, Due.NONE, 4, 4, 1);
            y.meet(1, 2);
            blush(due, y, 0, Due.NONE, 0, 4, 4);
            blush(due, y, 1, 0, 0, 0, 0);
            KissClearing none = Due.village("pp");
            blush(due, none, 1, 0, 0, 0);
        });
        edges.of(36, "the first set by asked()", due -> {
            KissClearing x = Due.village("pp x01h1 x01h2 x01h3 x01h4");
            blush(due, x, 2, 3, 3, 3);
            blush(due, x, 2, 6, 5, 5);
            blush(due, x, 2, 11, 7, 7);
            blush(due, x, 1, 15, 10, 10);
        });
        edges.of(36, "(NONE: none)", due -> {
            KissClearing x = Due.village("ppp x01h2 x12c3 x20t4");
            blush(due, x, 1, 1, 2, 2, 0);
            blush(due, x, 0, Due.NONE, 1, 1, 0);
            blush(due, x, 0, Due.NONE, 6, 5, 8);
            blush(due, x, 0, Due.NONE, -1, 0, 0);
            blush(due, x, 0, Due.NONE, 0, 0, Due.MIN);
            blush(due, x, 0, Due.NONE, Due.MAX, Due.MAX, Due.MAX);
            blush(due, x, 0, Due.NONE, Due.MIN, Due.MIN, Due.MIN);
        });
        edges.of(36, "BAD", due -> {
            KissClearing x = Due.village("pp x01h1");
            for (int r : NO_ROWS) {
                due.refuses(x, "blushes(" + r + ")", () -> x.blushes(r), Due.BAD);
            }
        });
    }

    private static void blushesRefused(Edges edges) {
        edges.of(36, "STATE: no PERSONS", due -> {
            KissClearing none = new KissClearing();
            none.row(0, 0);
            due.refuses(none, "blushes(0) of none, though the row has none", () -> none.blushes(0), Due.STATE);
        });
        edges.of(36, "NOTHING", due -> {
            KissClearing x = Due.village("pp x01h1");
            for (int r = 0; r < 6; r++) {
                int row = r;
                due.finds(x, "blushes(" + r + ")", () -> x.blushes(row), Due.NOTHING);
            }
        });
        edges.of(36, "SIZE", due -> {
            KissClearing x = Due.village("ppp x01h1");
            for (int n : new int[] {0, 1, 2, 4, 6, 40}) {
                x.row(0, n);
                due.finds(x, "blushes of " + n + " for three", () -> x.blushes(0), Due.SIZE);
            }
        });
        edges.of(36, "(In this order.)", due -> {
            KissClearing none = new KissClearing();
            due.refuses(none, "BAD ahead of STATE", () -> none.blushes(6), Due.BAD);
            due.refuses(none, "STATE ahead of NOTHING", () -> none.blushes(0), Due.STATE);
            none.row(0, 3);
            due.refuses(none, "STATE ahead of SIZE", () -> none.blushes(0), Due.STATE);
            KissClearing x = Due.village("pp");
            due.finds(x, "NOTHING ahead of SIZE", () -> x.blushes(0), Due.NOTHING);
        });
    }

    private static void sures(Due due, KissClearing x, int want, int... row) {
        Due.fill(x, 5, row);
        due.is("sure of " + Arrays.toString(row), x.sure(5), want);
    }

    private static void sure(Edges edges) {
        edges.of(37, "DRAFTS (bits) that were paid in each of these sets", due -> {
            KissClearing x = Due.village("pp x01h1 x01h2 x01h3 x01h4");
            sures(due, x, 0, 0, 0);
            sures(due, x, 1, 1, 1);
            sures(due, x, 0, 3, 3);
            sures(due, x, 2, 6, 6);
            sures(due, x, 8, 7, 7);
            sures(due, x, 15, 10, 10);
            due.is("asked(), which sure() does not tell by", x.asked(), 0);
            KissClearing twelve = Due.village("pp x01h1 x01h1 x01h1 x01h1 x01h1 x01h1 x01h1 x01h1 x01h1 x01h1 x01h1 x01h9");
            sures(due, twelve, 0, 10, 10);
            sures(due, twelve, 1 << 11, 12, 12);
            sures(due, twelve, 4095, 20, 20);
        });
        edges.of(37, "(0: none fits)", due -> {
            KissClearing x = Due.village("pp x01h2 x01h4");
            sures(due, x, 3, 6, 6);
            sures(due, x, 0, 3, 3);
            sures(due, x, 0, 7, 7);
            sures(due, x, 0, -2, -2);
            sures(due, x, 0, Due.MIN, Due.MAX);
        });
        edges.of(37, "BAD", due -> {
            KissClearing x = Due.village("pp x01h1");
            for (int r : NO_ROWS) {
                due.refuses(x, "sure(" + r + ")", () -> x.sure(r), Due.BAD);
            }
        });
        edges.of(37, "STATE", due -> {
            KissClearing none = new KissClearing();
            none.row(0, 0);
            due.refuses(none, "sure(0) of no persons", () -> none.sure(0), Due.STATE);
        });
        edges.of(37, "NOTHING", due -> {
            KissClearing x = Due.village("pp x01h1");
            for (int r = 0; r < 6; r++) {
                int row = r;
                due.finds(x, "sure(" + r + ")", () -> x.sure(row), Due.NOTHING);
            }
        });
        edges.of(37, "SIZE", due -> {
            KissClearing x = Due.village("ppp x01h1");
            for (int n : new int[] {0, 1, 2, 4, 6, 40}) {
                x.row(0, n);
                due.finds(x, "sure of " + n + " for three", () -> x.sure(0), Due.SIZE);
            }
        });
        edges.of(37, "(In this order.)", due -> {
            KissClearing none = new KissClearing();
            due.refuses(none, "BAD ahead of STATE", () -> none.sure(6), Due.BAD);
            due.refuses(none, "STATE ahead of NOTHING", () -> none.sure(0), Due.STATE);
            none.row(0, 3);
            due.refuses(none, "STATE ahead of SIZE", () -> none.sure(0), Due.STATE);
            KissClearing x = Due.village("pp");
            due.finds(x, "NOTHING ahead of SIZE", () -> x.sure(0), Due.NOTHING);
        });
    }

    private static void chances(Due due, String text, int upper, int lower) {
        KissClearing x = Due.village(text);
        due.is("odds() of " + text, x.odds(), 1);
        due.is("upper() of " + text, x.upper(), upper);
        due.is("lower() of " + text, x.lower(), lower);
    }

    private static void odds(Edges edges) {
        edges.of(38, "Chances that nobody FALLS, if one PERSON, all alike likely, BOUNCES, told by upper(), lower(): 1", due -> {
            chances(due, "pp", 1, 1);
            chances(due, "pp x01h1", 1, 1);
            chances(due, "pp x01h2", 1, 2);
            chances(due, "pp x01h9 x10h9", 0, 1);
            chances(due, "ppp x01h9", 1, 3);
            chances(due, "pppp x01h1 x12h2 x23h3", 1, 2);
            chances(due, "ppppp x01h1 x12h2 x23h3", 3, 5);
            chances(due, "pppppp x01h1 x12h2 x23h3", 2, 3);
            chances(due, "pppppp x01h1 x12h2", 5, 6);
            chances(due, "pppppp x01h1 x12h2 x23h3 x34h4", 1, 2);
            chances(due, "pppppp x01h1 x12h2 x23h3 x34h4 x45h5", 1, 3);
        });
        edges.of(38, "STATE: no PERSONS", due -> {
            KissClearing none = new KissClearing();
            due.refuses(none, "odds()", none::odds, Due.STATE);
            KissClearing x = Due.village("pp x01h2");
            x.odds();
            Due.write(x, 0, "");
            x.village(0);
            due.is("odds() of persons that stay", x.odds(), 1);
        });
    }

    /** The same meetings by meet(), one by one: how many kisses are given. */
    private static int meetings(KissClearing x, int n, int seed) {
        int persons = x.count(0);
        long lot = seed;
        int given = 0;
        for (int i = 0; i < n; i++) {
            lot = lot * 48271 % 2147483647;
            int one = (int) (lot % persons);
            int other = one;
            for (long further = 1 + lot / 32 % (persons - 1); further > 0; further--) {
                other = other + 1 == persons ? 0 : other + 1;
            }
            given += x.meet(one, other);
        }
        return given;
    }

    private static void lots(Edges edges) {
        String drafts = " x01h9 x10h4 x01c3 x10t2 x10h1 x01t1";
        edges.of(39, "n (1 .. 20) meetings truly by LOTS of a seed", due -> {
            for (int n : new int[] {1, 2, 19, 20}) {
                KissClearing x = Due.village("ppp" + drafts + " x12h7 x02h5 x20c8");
                KissClearing y = Due.village("ppp" + drafts + " x12h7 x02h5 x20c8");
                due.is("lots(" + n + ", 77)", x.lots(n, 77), meetings(y, n, 77));
                due.is("deeds behind lots(" + n + ", 77)", x.count(2), n);
                due.is("digest() behind lots(" + n + ", 77)", x.digest(), y.digest());
                due.is("undo(" + (n - 1) + "): one meeting is one deed", x.undo(n - 1), 1);
                due.is("asked(), which lots() does not tell by", x.asked(), 0);
            }
        });
        edges.of(39, "a number comes from the one ahead by 48271 times it modulo 2147483647, the first from the seed (1 .. 2147483646)",
                due -> {
            // 48271, 182605794, 1291394886, 1914720637, 2078669041 come from 1: 1 and 5 of six, 0 and 2, 0 and 1, 1 and 0, 1 and 4.
            KissClearing x = Due.village("pppppp x15h1 x05h2 x20c3 x01t4 x41h5 x34h9 x24h9 x12h9 x25h9 x35h9 x45h9 x03h9");
            int[] given = {1, 1 + 3, 1 + 3 + 4, 1 + 3 + 4, 1 + 3 + 4 + 5};
            for (int n = 1; n <= 5; n++) {
                due.is("lots(" + n + ", 1)", x.lots(n, 1), given[n - 1]);
                x.undo(0);
            }
            // 2147435376 comes from 2147483646: of six persons 0, and by 67107355 modulo 5, which is 0, 1.
            due.is("lots(1, 2147483646)", x.lots(1, 2147483646), 4);
        });
        edges.of(39, "one PERSON is it modulo how many there are, the other one is as many further on (by numbers, round) "
                + "as 1 and this: it by 32 (cut), modulo 1 less than there are: KISSES given", due -> {
            String text = "pppppp";
            for (int persons = 2; persons <= 6; persons++) {
                for (int seed : new int[] {1, 2, 31, 32, 33, 12345, 1073741823, 1073741824, 2147483645, 2147483646}) {
                    KissClearing x = Due.village(text.substring(0, persons));
                    KissClearing y = Due.village(text.substring(0, persons));
                    for (int i = 0; i < 12; i++) {
                        int one = i % persons;
                        int told = 100 * one + 10 * ((one + 1 + i / persons % (persons - 1)) % persons) + i % 3;
                        due.is("owe(" + told + ")", x.owe(told, 1 + i % 9), y.owe(told, 1 + i % 9));
                    }
                    String call = "lots(9, " + seed + ") of " + persons;
                    due.is(call, x.lots(9, seed), meetings(y, 9, seed));
                    due.is(call + ", digest()", x.digest(), y.digest());
                }
            }
        });
    }

    private static void lotsRefused(Edges edges) {
        edges.of(39, "BAD", due -> {
            KissClearing x = Due.village("pp x01h1");
            KissClearing none = new KissClearing();
            for (int n : new int[] {0, -1, 21, Due.MIN, Due.MAX}) {
                due.refuses(x, "lots(" + n + ", 1)", () -> x.lots(n, 1), Due.BAD);
                due.refuses(none, "lots(" + n + ", 1) of no persons: BAD is ahead of STATE", () -> none.lots(n, 1), Due.BAD);
            }
            for (int seed : new int[] {0, -1, Due.MIN, Due.MAX}) {
                due.refuses(x, "lots(1, " + seed + ")", () -> x.lots(1, seed), Due.BAD);
                due.refuses(none, "lots(1, " + seed + ") of no persons", () -> none.lots(1, seed), Due.BAD);
            }
        });
        edges.of(39, "STATE: no PERSONS", due -> {
            KissClearing none = new KissClearing();
            due.refuses(none, "lots(1, 1)", () -> none.lots(1, 1), Due.STATE);
            due.refuses(none, "lots(20, 2147483646)", () -> none.lots(20, 2147483646), Due.STATE);
        });
        edges.of(39, "FULL: with n more there would be more than 40 DEEDS", due -> {
            KissClearing x = Due.village("pp x01h9");
            due.is("lots(20, 5)", x.lots(20, 5), 9);
            due.is("lots(1, 5)", x.lots(1, 5), 0);
            due.refuses(x, "lots(20, 5) up to 41", () -> x.lots(20, 5), Due.FULL);
            due.is("lots(19, 5) up to 40", x.lots(19, 5), 0);
            due.refuses(x, "lots(1, 5) up to 41", () -> x.lots(1, 5), Due.FULL);
            due.is("deeds", x.count(2), 40);
            x.undo(20);
            due.is("lots(20, 5) up to 40", x.lots(20, 5), 0);
        });
        edges.of(39, "(FULL last.)", due -> {
            KissClearing x = Due.full(Due.village("pp"), 0, 1);
            due.refuses(x, "lots(0, 1): BAD ahead of FULL", () -> x.lots(0, 1), Due.BAD);
            due.refuses(x, "lots(21, 1): BAD ahead of FULL", () -> x.lots(21, 1), Due.BAD);
            due.refuses(x, "lots(1, 0): BAD ahead of FULL", () -> x.lots(1, 0), Due.BAD);
            due.refuses(x, "lots(1, MAX): BAD ahead of FULL", () -> x.lots(1, Due.MAX), Due.BAD);
            due.refuses(x, "lots(1, 1)", () -> x.lots(1, 1), Due.FULL);
        });
    }
}
