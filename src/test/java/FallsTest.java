/** Promises 28 to 30: falls, worst, saved. */
public final class FallsTest {
    private static final Due due = new Due();

    public static void main(String[] args) {
        falls();
        reserves();
        fallsRefused();
        worst();
        saved();
        savedOfMuch();
        savedRefused();
        due.end();
    }

    private static void falls() {
        KissClearing x = Due.village("pppp x01h9 x12h9 x23h9 x30h1");
        due.is("falls(0): one after another", x.falls(0), 2 + 4);
        due.is("falls(1): 0 owes more than it has, anyhow", x.falls(1), 1 + 4);
        due.is("falls(3)", x.falls(3), 1 + 2 + 4);
        KissClearing y = Due.village("pppp x01h2 x12h2 x23h2");
        due.is("falls of the last one", y.falls(3), 1 + 2 + 4);
        KissClearing back = Due.village("pppppp x54h1 x43h2 x32h3 x21h4 x10h5");
        due.is("one after another, the last one first", back.falls(5), 2 + 4 + 8 + 16);
        due.is("as far as it reaches", back.falls(3), 2 + 4);
        KissClearing z = Due.village("ppp x01h1 x12h2 x20h1");
        due.is("just enough with all", z.falls(2), 0);
        due.is("not enough when 0 bounces", z.falls(0), 2);
        due.is("what is owed to the one who bounces counts", z.falls(1), 0);
    }

    private static void reserves() {
        KissClearing x = Due.village("pbis x01h1 x03h1 x10h6 x20t4 x30h1");
        due.is("a sailor has none", x.falls(0), 8);
        x.owe(100, 1);
        due.is("a bride has six", x.falls(0), 2 + 8);
        x.owe(200, 1);
        due.is("a bishop has twelve", x.falls(0), 2 + 4 + 8);
    }

    private static void fallsRefused() {
        KissClearing x = Due.village("pp x01h9");
        due.refuses(x, "falls(2)", () -> x.falls(2), Due.BAD);
        due.refuses(x, "falls(-1)", () -> x.falls(-1), Due.BAD);
        KissClearing none = new KissClearing();
        due.refuses(none, "falls(0) of no persons", () -> none.falls(0), Due.BAD);
    }

    private static void worst() {
        KissClearing x = Due.village("pppp x12h2 x20h2 x03h1");
        due.is("falls(0)", x.falls(0), 2 + 4);
        due.is("falls(1)", x.falls(1), 4);
        due.is("falls(2)", x.falls(2), 2);
        due.is("falls(3)", x.falls(3), 2 + 4);
        due.tells(x, "worst()", x.worst(), 0, 2);
        KissClearing z = Due.village("ppp x12h1 x20h2 x01h1");
        due.tells(z, "worst() is not the first one", z.worst(), 1, 1);
        KissClearing y = Due.village("ppp x01h2");
        due.tells(y, "worst() of alike ones", y.worst(), 1, 1);
        KissClearing none = new KissClearing();
        due.refuses(none, "worst() of no persons", none::worst, Due.STATE);
    }

    private static void saved() {
        KissClearing x = Due.village("pppp x01h9 x12h9 x23h9 x30h1");
        due.is("saved(2, 0): 1 falls, too", x.saved(2, 0), 8);
        due.is("saved(1, 0)", x.saved(1, 0), 8);
        due.is("saved(3, 0): it does not fall", x.saved(3, 0), 0);
        due.is("saved(0, 3)", x.saved(0, 3), 8);
        KissClearing y = Due.village("ppp x01h5 x12h5 x20h5");
        due.is("saved(1, 0): what 2 pays does not reach it", y.saved(1, 0), 4);
        due.is("saved(2, 0): 1 falls, for all others are as they are", y.saved(2, 0), 4);
        KissClearing z = Due.village("ppps x01h5 x12h5 x20h5 x23t2 x30c3");
        due.is("saved(2, 3): it stands, and all that hangs on it", z.saved(2, 3), 5);
    }

    private static void savedOfMuch() {
        KissClearing x = Due.village("ss x01t9 x01t9 x01t9 x01t9 x01t9 x01t9 x01t9 x01h9 x01h2");
        due.is("200 more are enough", x.saved(0, 1), 200);
        x.owe(10, 1);
        due.is("200 more are not enough", x.saved(0, 1), Due.NONE);
    }

    private static void savedRefused() {
        KissClearing x = Due.village("pp x01h9");
        due.refuses(x, "saved(0, 0)", () -> x.saved(0, 0), Due.BAD);
        due.refuses(x, "saved(0, 2)", () -> x.saved(0, 2), Due.BAD);
        due.refuses(x, "saved(-1, 0)", () -> x.saved(-1, 0), Due.BAD);
    }
}
