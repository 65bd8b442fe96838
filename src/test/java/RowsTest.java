/** Promises 1 to 7: a new object, row, lay, at, tear, copy, mean. */
public final class RowsTest {
    private static final Due due = new Due();

    public static void main(String[] args) {
        newObject();
        row();
        layAndAt();
        tear();
        copy();
        copyRefused();
        mean();
        due.end();
    }

    private static void newObject() {
        KissClearing x = new KissClearing();
        for (int what = 0; what <= 8; what++) {
            due.is("new: count(" + what + ")", x.count(what), 0);
        }
        due.is("new: asked()", x.asked(), 0);
        due.is("new: upper()", x.upper(), 0);
        due.is("new: lower()", x.lower(), 1);
        due.is("new: finding()", x.finding(), 0);
        for (int f = 1; f <= 5; f++) {
            due.is("new: findings(" + f + ")", x.findings(f), 0);
        }
        for (int r = 0; r < 6; r++) {
            due.is("new: at(" + r + ", 0)", x.at(r, 0), Due.FINDING);
        }
        due.is("new: finding() of a missing row", x.finding(), Due.NOTHING);
    }

    private static void row() {
        KissClearing x = new KissClearing();
        due.is("row(0, 0)", x.row(0, 0), 0);
        due.is("row(5, 40)", x.row(5, 40), 40);
        due.tells(x, "at(5, 39)", x.at(5, 39), 1, 0);
        x.lay(5, 39, 7);
        due.is("row(5, 40) again", x.row(5, 40), 40);
        due.tells(x, "at(5, 39) anew", x.at(5, 39), 1, 0);
        due.is("count(6)", x.count(6), 2);
        due.refuses(x, "row(5, 41)", () -> x.row(5, 41), Due.BAD);
        due.refuses(x, "row(6, 1)", () -> x.row(6, 1), Due.BAD);
        due.refuses(x, "row(-1, 1)", () -> x.row(-1, 1), Due.BAD);
        due.refuses(x, "row(6, -1): BAD is ahead of SIZE", () -> x.row(6, -1), Due.BAD);
        due.refuses(x, "row(0, MAX)", () -> x.row(0, Integer.MAX_VALUE), Due.BAD);
        due.finds(x, "row(5, -1)", () -> x.row(5, -1), Due.SIZE);
        due.finds(x, "row(5, MIN)", () -> x.row(5, Integer.MIN_VALUE), Due.SIZE);
    }

    private static void layAndAt() {
        KissClearing x = new KissClearing();
        x.row(2, 3);
        due.tells(x, "lay(2, 1, 5)", x.lay(2, 1, 5), 1, 0);
        due.tells(x, "lay(2, 1, -6)", x.lay(2, 1, -6), 1, 5);
        due.tells(x, "at(2, 1)", x.at(2, 1), 1, -6);
        due.tells(x, "lay(2, 2, MIN)", x.lay(2, 2, Integer.MIN_VALUE), 1, 0);
        due.tells(x, "at(2, 2)", x.at(2, 2), 1, Integer.MIN_VALUE);
        due.tells(x, "at(2, 0)", x.at(2, 0), 1, 0);
        due.refuses(x, "lay(6, 0, 1)", () -> x.lay(6, 0, 1), Due.BAD);
        due.refuses(x, "at(-1, 0)", () -> x.at(-1, 0), Due.BAD);
        due.finds(x, "lay(3, 0, 1)", () -> x.lay(3, 0, 1), Due.NOTHING);
        due.finds(x, "at(3, 99): NOTHING is ahead of BEYOND", () -> x.at(3, 99), Due.NOTHING);
        due.finds(x, "lay(2, 3, 1)", () -> x.lay(2, 3, 1), Due.BEYOND);
        due.finds(x, "lay(2, -1, 1)", () -> x.lay(2, -1, 1), Due.BEYOND);
        due.finds(x, "at(2, 3)", () -> x.at(2, 3), Due.BEYOND);
        due.finds(x, "at(2, MAX)", () -> x.at(2, Integer.MAX_VALUE), Due.BEYOND);
        x.row(4, 0);
        due.finds(x, "at(4, 0) of an empty row", () -> x.at(4, 0), Due.BEYOND);
    }

    private static void tear() {
        KissClearing x = new KissClearing();
        x.row(1, 2);
        due.is("tear(1)", x.tear(1), 1);
        due.is("count(6)", x.count(6), 0);
        due.finds(x, "tear(1) again", () -> x.tear(1), Due.NOTHING);
        due.refuses(x, "tear(6)", () -> x.tear(6), Due.BAD);
        due.refuses(x, "tear(-1)", () -> x.tear(-1), Due.BAD);
        due.is("row(1, 1) behind tear(1)", x.row(1, 1), 1);
        due.tells(x, "at(1, 0)", x.at(1, 0), 1, 0);
    }

    private static void holds(KissClearing x, int r, int... values) {
        for (int i = 0; i < values.length; i++) {
            x.at(r, i);
            due.is("place " + i + " of row " + r, x.asked(), values[i]);
        }
        due.is("the place behind row " + r, x.at(r, values.length), Due.FINDING);
    }

    private static void copy() {
        KissClearing x = new KissClearing();
        Due.fill(x, 0, 1, 2, 3, 4, 5);
        Due.fill(x, 1, 9, 9, 9);
        due.is("copy(0, 1, 1, 0, 2)", x.copy(0, 1, 1, 0, 2), 1);
        holds(x, 1, 2, 3, 9);
        holds(x, 0, 1, 2, 3, 4, 5);
        due.is("copy(0, 0, 0, 1, 4)", x.copy(0, 0, 0, 1, 4), 1);
        holds(x, 0, 1, 1, 2, 3, 4);
        due.is("copy(0, 2, 0, 0, 3)", x.copy(0, 2, 0, 0, 3), 1);
        holds(x, 0, 2, 3, 4, 3, 4);
        due.is("copy(0, 5, 1, 3, 0)", x.copy(0, 5, 1, 3, 0), 1);
        due.is("copy(1, 0, 1, 0, 3)", x.copy(1, 0, 1, 0, 3), 1);
        holds(x, 1, 2, 3, 9);
        x.lay(0, 0, 77);
        x.copy(0, 1, 1, 0, 1);
        due.is("asked() behind copy()", x.asked(), 2);
    }

    private static void copyRefused() {
        KissClearing x = new KissClearing();
        Due.fill(x, 0, 1, 2, 3);
        Due.fill(x, 1, 4, 5);
        due.refuses(x, "copy(6, 0, 0, 0, -1)", () -> x.copy(6, 0, 0, 0, -1), Due.BAD);
        due.refuses(x, "copy(0, 0, -1, 0, 1)", () -> x.copy(0, 0, -1, 0, 1), Due.BAD);
        due.finds(x, "copy(5, 0, 0, 0, -1): SIZE is ahead of NOTHING", () -> x.copy(5, 0, 0, 0, -1), Due.SIZE);
        due.finds(x, "copy(5, 9, 0, 0, 1): NOTHING is ahead of BEYOND", () -> x.copy(5, 9, 0, 0, 1), Due.NOTHING);
        due.finds(x, "copy(0, 0, 5, 0, 0)", () -> x.copy(0, 0, 5, 0, 0), Due.NOTHING);
        due.finds(x, "copy(0, 2, 1, 0, 2)", () -> x.copy(0, 2, 1, 0, 2), Due.BEYOND);
        due.finds(x, "copy(0, 0, 1, 1, 2)", () -> x.copy(0, 0, 1, 1, 2), Due.BEYOND);
        due.finds(x, "copy(0, -1, 1, 0, 0)", () -> x.copy(0, -1, 1, 0, 0), Due.BEYOND);
        due.finds(x, "copy(0, 0, 1, -1, 0)", () -> x.copy(0, 0, 1, -1, 0), Due.BEYOND);
        due.finds(x, "copy(0, 4, 1, 0, 0)", () -> x.copy(0, 4, 1, 0, 0), Due.BEYOND);
        due.finds(x, "copy(0, 0, 1, 3, 0)", () -> x.copy(0, 0, 1, 3, 0), Due.BEYOND);
        due.finds(x, "copy(0, MAX, 1, 0, MAX)",
                () -> x.copy(0, Integer.MAX_VALUE, 1, 0, Integer.MAX_VALUE), Due.BEYOND);
        due.finds(x, "copy(0, 1, 1, 0, MAX)", () -> x.copy(0, 1, 1, 0, Integer.MAX_VALUE), Due.BEYOND);
        due.finds(x, "copy(0, MIN, 1, 0, MAX)",
                () -> x.copy(0, Integer.MIN_VALUE, 1, 0, Integer.MAX_VALUE), Due.BEYOND);
    }

    private static void mean() {
        KissClearing x = new KissClearing();
        Due.fill(x, 0, 1, 2, 2);
        due.tells(x, "mean of 1 2 2", x.mean(0), 1, 1);
        Due.fill(x, 0, -1, -2, -2);
        due.tells(x, "mean of -1 -2 -2, cut towards 0", x.mean(0), 1, -1);
        Due.fill(x, 0, Integer.MAX_VALUE, Integer.MAX_VALUE, Integer.MAX_VALUE);
        due.tells(x, "mean of great ones", x.mean(0), 1, Integer.MAX_VALUE);
        Due.fill(x, 0, Integer.MIN_VALUE, Integer.MIN_VALUE);
        due.tells(x, "mean of least ones", x.mean(0), 1, Integer.MIN_VALUE);
        due.refuses(x, "mean(6)", () -> x.mean(6), Due.BAD);
        due.finds(x, "mean(1)", () -> x.mean(1), Due.NOTHING);
        x.row(1, 0);
        due.finds(x, "mean of an empty row", () -> x.mean(1), Due.NOUGHT);
    }
}
