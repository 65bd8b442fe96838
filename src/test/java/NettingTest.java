/** Promises 23 to 27: between, all, ring, net, left. */
public final class NettingTest {
    private static final Due due = new Due();

    public static void main(String[] args) {
        between();
        all();
        allOfManyRings();
        ring();
        ringOfAlikeOnes();
        ringRefused();
        net();
        left();
        leftRefused();
        due.end();
    }

    private static void between() {
        KissClearing x = Due.village("ppp x01h5 x01h3 x10h2 x01c9 x02h1");
        due.is("between(0, 1, 0)", x.between(0, 1, 0), 8);
        due.is("between(1, 0, 0)", x.between(1, 0, 0), 2);
        due.is("between(0, 1, 1)", x.between(0, 1, 1), 9);
        due.is("between(0, 1, 2)", x.between(0, 1, 2), 0);
        due.refuses(x, "between(0, 0, 0)", () -> x.between(0, 0, 0), Due.BAD);
        due.refuses(x, "between(0, 3, 0)", () -> x.between(0, 3, 0), Due.BAD);
        due.refuses(x, "between(-1, 0, 0)", () -> x.between(-1, 0, 0), Due.BAD);
        due.refuses(x, "between(0, 1, 3)", () -> x.between(0, 1, 3), Due.BAD);
        due.refuses(x, "between(0, 1, -1)", () -> x.between(0, 1, -1), Due.BAD);
    }

    private static void all() {
        KissClearing x = Due.village("pppp x01h5 x12h3 x20h4 x23h9 x30h2 x10h1 x01c1 x12c9 x20c9");
        due.tells(x, "all(0)", x.all(0), 2, 9);
        due.tells(x, "all(1)", x.all(1), 1, 3);
        due.refuses(x, "all(2)", () -> x.all(2), Due.BAD);
        due.refuses(x, "all(-1)", () -> x.all(-1), Due.BAD);
        x.meet(1, 2);
        due.tells(x, "all(0) when one is paid", x.all(0), 0, 0);
        KissClearing none = new KissClearing();
        due.tells(none, "all(0) of no persons", none.all(0), 0, 0);
    }

    private static void allOfManyRings() {
        KissClearing x = Due.village("pppppp x01h1 x12h1 x23h1 x34h1 x45h1 x50h1 x01h2 x12h2 x23h2 x34h2 x45h2 x50h2");
        due.tells(x, "rings of six, two drafts each way", x.all(0), 64, 12);
        KissClearing y = Due.village("ppp x01c1 x12c2 x20c3 x01c4 x12c5 x20c6 x01c7 x12c8 x20c9 x01c9 x12c9 x20c9");
        due.tells(y, "rings of three, four drafts each way", y.all(1), 64, 27);
        KissClearing z = Due.village("pppp x01h1 x10h1 x02h1 x20h1 x03h1 x30h1 x12h1 x21h1 x13h1 x31h1 x23h1 x32h1");
        due.tells(z, "each of four on each other one", z.all(0), 8 + 6, 4);
    }

    private static void holds(KissClearing x, String what, int r, int... values) {
        for (int i = 0; i < values.length; i++) {
            x.at(r, i);
            due.is(what + ", place " + i, x.asked(), values[i]);
        }
        due.is(what + ", place behind", x.at(r, values.length), Due.FINDING);
    }

    private static void ring() {
        KissClearing x = Due.village("pppp x23h9 x12h3 x30h2 x20h4 x01h5 x01c1 x12c9 x20c9");
        x.row(1, 9);
        due.is("ring(0, 1)", x.ring(0, 1), 3);
        holds(x, "ring of hands", 1, 1, 3, 4);
        due.is("ring(1, 5)", x.ring(1, 5), 1);
        holds(x, "ring of cheeks", 5, 5, 6, 7);
        x.meet(0, 1);
        due.refuses(x, "ring(0, 1) when there is none: the row stays", () -> x.ring(0, 1), Due.NONE);
        due.refuses(x, "ring(0, 0) when there is none: the row is missing", () -> x.ring(0, 0), Due.NONE);
    }

    private static void ringOfAlikeOnes() {
        KissClearing x = Due.village("pppp x20h4 x01h4 x12h4 x12h4 x20h4 x01h4");
        due.is("ring of alike ones", x.ring(0, 1), 4);
        holds(x, "the first row of alike ones", 1, 0, 1, 2);
        KissClearing y = Due.village("pppp x01h4 x13h3 x32h3 x20h9 x12h4");
        due.is("four of 3 and three of 4 clear alike", y.ring(0, 1), 3);
        holds(y, "the first row of unlike lengths", 1, 0, 1, 2, 3);
        KissClearing z = Due.village("pppp x01h4 x12h4 x20h9 x13h3 x32h3");
        due.is("three of 4 and four of 3 clear alike", z.ring(0, 1), 4);
        holds(z, "the first row, now shorter", 1, 0, 1, 2);
    }

    private static void ringRefused() {
        KissClearing x = Due.village("ppp x01h5 x12h3 x20h4");
        due.refuses(x, "ring(2, 0)", () -> x.ring(2, 0), Due.BAD);
        due.refuses(x, "ring(-1, 0)", () -> x.ring(-1, 0), Due.BAD);
        due.refuses(x, "ring(0, 6)", () -> x.ring(0, 6), Due.BAD);
        due.refuses(x, "ring(0, -1)", () -> x.ring(0, -1), Due.BAD);
        x.all(0);
        due.is("ring(0, 0)", x.ring(0, 0), 3);
        due.is("asked() behind ring()", x.asked(), 9);
    }

    private static void net() {
        KissClearing x = Due.village("pppp x01h5 x12h3 x20h4 x03t9 x30t2 x01t1");
        due.is("net(0)", x.net(0), 1 + 1);
        due.is("net(1)", x.net(1), 0);
        due.is("net(2)", x.net(2), 8);
        due.refuses(x, "net(3)", () -> x.net(3), Due.BAD);
        due.refuses(x, "net(-1)", () -> x.net(-1), Due.BAD);
        due.is("net(0) of no persons", new KissClearing().net(0), 0);
    }

    private static void left() {
        KissClearing x = Due.village("pppp x01h5 x12h3 x20h4 x23h9 x30h2 x12h2 x01c7");
        long digest = x.digest();
        due.tells(x, "left(0)", x.left(0), 25 - 9 - 8, 2);
        due.tells(x, "left(1)", x.left(1), 7, 0);
        due.is("digest() behind left()", x.digest(), digest);
        x.meet(2, 0);
        due.tells(x, "left(0) when one is paid", x.left(0), 21 - 8, 1);
        KissClearing y = Due.village("ppp x01h1 x12h2 x20h3 x01h4 x12h5 x20h6 x01h7 x12h8 x20h9");
        due.tells(y, "left of three ways", y.left(0), 45 - 36, 3);
        due.tells(new KissClearing(), "left(0) of no persons", new KissClearing().left(0), 0, 0);
    }

    private static void leftRefused() {
        KissClearing x = Due.village("ppp x01h5 x12h3 x20h4");
        due.refuses(x, "left(2)", () -> x.left(2), Due.BAD);
        due.refuses(x, "left(-1)", () -> x.left(-1), Due.BAD);
        due.refuses(x, "left(3)", () -> x.left(3), Due.BAD);
    }
}
