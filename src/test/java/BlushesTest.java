/** Promises 36 to 39: blushes, sure, odds, lots. */
public final class BlushesTest {
    private static final Due due = new Due();

    public static void main(String[] args) {
        blushes();
        firstSet();
        blushesOfAllSorts();
        blushesRefused();
        odds();
        lots();
        lotsAreDeeds();
        lotsRefused();
        due.end();
    }

    private static void blush(KissClearing x, int sets, int first, int sure, int... row) {
        String told = "blushes of " + java.util.Arrays.toString(row);
        Due.fill(x, 0, row);
        due.tells(x, told, x.blushes(0), sets, first);
        due.is(told + ", sure", x.sure(0), sure);
        due.is(told + ", asked() behind sure()", x.asked(), first);
    }

    private static void blushes() {
        KissClearing x = Due.village("ppp x01h2 x10c2 x12h3 x20t4 x01h1 x01t1");
        blush(x, 1, 0, 0, 0, 0, 0);
        blush(x, 3, 1, 0, 2, 2, 0);
        blush(x, 1, 4, 4, 0, 3, 3);
        blush(x, 3, 5, 4, 2, 5, 3);
        blush(x, 1, 63, 63, 10, 9, 7);
        blush(x, 0, Due.NONE, 0, 10, 9, 8);
        blush(x, 0, Due.NONE, 0, -2, 2, 0);
        blush(x, 0, Due.NONE, 0, Integer.MAX_VALUE, Integer.MIN_VALUE, 0);
        x.meet(1, 2);
        blush(x, 0, Due.NONE, 0, 0, 3, 3);
        blush(x, 1, 0, 0, 0, 0, 0);
    }

    private static void firstSet() {
        KissClearing x = Due.village("pp x01h1 x01h2 x01h3 x01h4");
        blush(x, 2, 6, 0, 5, 5);
        blush(x, 2, 7, 7 & 10, 6, 6);
        blush(x, 2, 11, 11 & 12, 7, 7);
    }

    private static void blushesOfAllSorts() {
        KissClearing twelve = Due.village("pp x01h1 x10h1 x01c1 x10c1 x01t1 x10t1 x01h1 x10h1 x01c1 x10c1 x01t1 x10t1");
        blush(twelve, 12, 1, 0, 1, 1);
        blush(twelve, 924, 63, 0, 6, 6);
        blush(twelve, 1, 4095, 4095, 12, 12);
        KissClearing alone = Due.village("pp x01h1 x01h2");
        Due.fill(alone, 0, 2, 2);
        due.is("sure() without blushes()", alone.sure(0), 2);
        KissClearing x = Due.village("pppp x01h1 x23c1 x02t1");
        blush(x, 1, 7, 7, 2, 1, 2, 1);
        blush(x, 1, 3, 3, 1, 1, 1, 1);
    }

    private static void blushesRefused() {
        KissClearing none = new KissClearing();
        due.refuses(none, "blushes(6)", () -> none.blushes(6), Due.BAD);
        due.refuses(none, "sure(-1)", () -> none.sure(-1), Due.BAD);
        due.refuses(none, "blushes(0) of no persons: STATE is ahead of NOTHING", () -> none.blushes(0), Due.STATE);
        due.refuses(none, "sure(0) of no persons", () -> none.sure(0), Due.STATE);
        KissClearing x = Due.village("pp x01h1");
        due.finds(x, "blushes(1)", () -> x.blushes(1), Due.NOTHING);
        due.finds(x, "sure(1)", () -> x.sure(1), Due.NOTHING);
        x.row(1, 3);
        due.finds(x, "blushes of three", () -> x.blushes(1), Due.SIZE);
        due.finds(x, "sure of three", () -> x.sure(1), Due.SIZE);
        x.row(1, 1);
        due.finds(x, "blushes of one", () -> x.blushes(1), Due.SIZE);
        due.finds(x, "sure of none", () -> x.sure(1), Due.SIZE);
    }

    private static void chances(String text, int upper, int lower) {
        KissClearing x = Due.village(text);
        due.is("odds() of " + text, x.odds(), 1);
        due.is("upper() of " + text, x.upper(), upper);
        due.is("lower() of " + text, x.lower(), lower);
        due.is("asked() behind odds()", x.asked(), 0);
    }

    private static void odds() {
        chances("pp", 1, 1);
        chances("pppppp", 1, 1);
        chances("ppp x01h9", 1, 3);
        chances("pp x01h9 x10h9", 0, 1);
        chances("pppppp x01h9 x10h9", 2, 3);
        chances("pppp x01h1 x12h2", 3, 4);
        chances("pppp x01h1 x12h2 x23h3", 1, 2);
        chances("pppppp x01h1 x12h2 x23h3", 2, 3);
        chances("ppppp x01h1 x12h2 x23h3", 3, 5);
        KissClearing none = new KissClearing();
        due.refuses(none, "odds() of no persons", none::odds, Due.STATE);
        KissClearing x = Due.village("ppp x01h9");
        x.odds();
        Due.write(x, 0, "pp");
        x.village(0);
        due.is("upper() stays", x.upper(), 1);
        due.is("lower() stays", x.lower(), 3);
    }

    /** Numbers 48271, 182605794, 1291394886 of the seed 1: of six persons 1 and 5, 0 and 2, 0 and 1. */
    private static void lots() {
        KissClearing x = Due.village("pppppp x15h1 x05h2 x20c3 x01t4 x34h9 x24h9 x12h9");
        x.all(0);
        due.is("lots(1, 1)", x.lots(1, 1), 1);
        x.undo(0);
        due.is("lots(2, 1)", x.lots(2, 1), 1 + 3);
        x.undo(0);
        due.is("lots(3, 1)", x.lots(3, 1), 1 + 3 + 4);
        due.is("asked() behind lots()", x.asked(), 0);
        due.is("lots(1, 2147483646)", x.lots(1, 2147483646) >= 0 ? 1 : 0, 1);
        KissClearing two = Due.village("pp x10h4 x01h9");
        due.is("lots(1, 9) of two", two.lots(1, 9), 5);
    }

    private static void lotsAreDeeds() {
        KissClearing x = Due.village("ppp x01h9 x12h9 x20h9");
        due.is("lots(20, 5)", x.lots(20, 5), 27);
        due.is("deeds", x.count(2), 20);
        due.is("undo(1)", x.undo(1), 19);
        due.is("open ones behind the first meeting", x.count(3), 2);
        due.is("lots(20, 6)", x.lots(20, 6), 18);
        due.refuses(x, "lots(20, 6) beyond 40", () -> x.lots(20, 6), Due.FULL);
        due.is("lots(19, 6) up to 40", x.lots(19, 6), 0);
        due.refuses(x, "lots(1, 6) beyond 40", () -> x.lots(1, 6), Due.FULL);
        due.refuses(x, "lots(1, 0) beyond 40", () -> x.lots(1, 0), Due.BAD);
    }

    private static void lotsRefused() {
        KissClearing none = new KissClearing();
        due.refuses(none, "lots(1, 1) of no persons", () -> none.lots(1, 1), Due.STATE);
        KissClearing x = Due.village("pp x01h1");
        due.refuses(x, "lots(0, 1)", () -> x.lots(0, 1), Due.BAD);
        due.refuses(x, "lots(21, 1)", () -> x.lots(21, 1), Due.BAD);
        due.refuses(x, "lots(1, 0)", () -> x.lots(1, 0), Due.BAD);
        due.refuses(x, "lots(1, -1)", () -> x.lots(1, -1), Due.BAD);
        due.refuses(x, "lots(1, MAX)", () -> x.lots(1, Integer.MAX_VALUE), Due.BAD);
    }
}
