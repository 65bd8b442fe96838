/** Promises 1 to 7, sentence by sentence: a new object, row, lay, at, tear, copy, mean. */
public final class EdgesOfRowsTest {
    private static final int[] NO_ROWS = {-1, 6, Due.MIN, Due.MAX};

    public static void main(String[] args) {
        look().end();
    }

    static Edges look() {
        Edges edges = new Edges();
        newObject(edges);
        row(edges);
        lay(edges);
        at(edges);
        tear(edges);
        copy(edges);
        copyRefused(edges);
        mean(edges);
        edges.wholly(1, 7);
        return edges;
    }

    private static void newObject(Edges edges) {
        edges.of(1, "No ROWS", due -> {
            KissClearing x = new KissClearing();
            due.is("count(6)", x.count(6), 0);
            for (int r = 0; r < 6; r++) {
                int row = r;
                due.finds(x, "at(" + r + ", 0)", () -> x.at(row, 0), Due.NOTHING);
            }
        });
        edges.of(1, "TEXTS", due -> {
            KissClearing x = new KissClearing();
            due.is("count(7)", x.count(7), 0);
            for (int t = 0; t < 4; t++) {
                int text = t;
                due.finds(x, "fault(" + t + ")", () -> x.fault(text), Due.NOTHING);
            }
        });
        edges.of(1, "PERSONS", due -> {
            KissClearing x = new KissClearing();
            due.is("count(0)", x.count(0), 0);
            due.is("count(5)", x.count(5), 0);
            due.refuses(x, "person(0, 0)", () -> x.person(0, 0), Due.BAD);
            due.refuses(x, "worst()", x::worst, Due.STATE);
        });
        edges.of(1, "DRAFTS", due -> {
            KissClearing x = new KissClearing();
            for (int what = 1; what <= 4; what++) {
                due.is("count(" + what + ")", x.count(what), 0);
            }
            due.refuses(x, "draft(0, 0)", () -> x.draft(0, 0), Due.BAD);
        });
    }

    private static void row(Edges edges) {
        edges.of(2, "A ROW is there with n ints 0: n", due -> {
            KissClearing x = new KissClearing();
            due.is("row(0, 0)", x.row(0, 0), 0);
            due.holds(x, "of none", 0);
            due.is("row(5, 40)", x.row(5, 40), 40);
            due.holds(x, "of 40", 5, new int[40]);
            due.is("count(6)", x.count(6), 2);
            Due.fill(x, 5, 7, 8, 9);
            due.is("row(5, 2), shorter", x.row(5, 2), 2);
            due.holds(x, "anew, shorter", 5, 0, 0);
            due.is("row(5, 3), longer again", x.row(5, 3), 3);
            due.holds(x, "anew, longer", 5, 0, 0, 0);
            due.is("count(6)", x.count(6), 2);
        });
        edges.of(2, "BAD", due -> {
            KissClearing x = new KissClearing();
            for (int r : NO_ROWS) {
                due.refuses(x, "row(" + r + ", 3)", () -> x.row(r, 3), Due.BAD);
                due.refuses(x, "row(" + r + ", -1): BAD is ahead of SIZE", () -> x.row(r, -1), Due.BAD);
            }
        });
        edges.of(2, "BAD: also n above 40", due -> {
            KissClearing x = new KissClearing();
            Due.fill(x, 0, 7, 8);
            due.refuses(x, "row(0, 41)", () -> x.row(0, 41), Due.BAD);
            due.refuses(x, "row(0, MAX)", () -> x.row(0, Due.MAX), Due.BAD);
            due.refuses(x, "row(1, 41)", () -> x.row(1, 41), Due.BAD);
            due.holds(x, "behind refused ones", 0, 7, 8);
            due.finds(x, "at(1, 0)", () -> x.at(1, 0), Due.NOTHING);
        });
        edges.of(2, "SIZE: below 0", due -> {
            KissClearing x = new KissClearing();
            Due.fill(x, 0, 7, 8);
            due.finds(x, "row(0, -1)", () -> x.row(0, -1), Due.SIZE);
            due.finds(x, "row(0, MIN)", () -> x.row(0, Due.MIN), Due.SIZE);
            due.finds(x, "row(1, -1)", () -> x.row(1, -1), Due.SIZE);
            due.holds(x, "behind refused ones", 0, 7, 8);
            due.is("count(6)", x.count(6), 1);
        });
    }

    private static void lay(Edges edges) {
        edges.of(3, "Place i of a ROW is v: what it was, told by asked(): 1", due -> {
            KissClearing x = new KissClearing();
            x.row(5, 40);
            due.tells(x, "lay(5, 0, MAX)", x.lay(5, 0, Due.MAX), 1, 0);
            due.tells(x, "lay(5, 39, MIN)", x.lay(5, 39, Due.MIN), 1, 0);
            due.tells(x, "lay(5, 0, -9)", x.lay(5, 0, -9), 1, Due.MAX);
            due.tells(x, "lay(5, 39, 4)", x.lay(5, 39, 4), 1, Due.MIN);
            due.tells(x, "lay(5, 39, 4), as it is", x.lay(5, 39, 4), 1, 4);
            int[] wants = new int[40];
            wants[0] = -9;
            wants[39] = 4;
            due.holds(x, "laid at its ends", 5, wants);
            x.row(0, 1);
            due.tells(x, "lay(0, 0, 1) of a row of one", x.lay(0, 0, 1), 1, 0);
            due.holds(x, "of one", 0, 1);
        });
        edges.of(3, "BAD", due -> {
            KissClearing x = new KissClearing();
            for (int r : NO_ROWS) {
                due.refuses(x, "lay(" + r + ", 0, 1)", () -> x.lay(r, 0, 1), Due.BAD);
                due.refuses(x, "lay(" + r + ", -1, 1): BAD is ahead", () -> x.lay(r, -1, 1), Due.BAD);
            }
        });
        edges.of(3, "NOTHING", due -> {
            KissClearing x = new KissClearing();
            due.finds(x, "lay(0, 0, 1)", () -> x.lay(0, 0, 1), Due.NOTHING);
            x.row(5, 2);
            x.tear(5);
            due.finds(x, "lay(5, 0, 1) of a torn one", () -> x.lay(5, 0, 1), Due.NOTHING);
            due.finds(x, "lay(5, -1, 1): NOTHING is ahead of BEYOND", () -> x.lay(5, -1, 1), Due.NOTHING);
            due.finds(x, "lay(5, 40, 1): NOTHING is ahead of BEYOND", () -> x.lay(5, 40, 1), Due.NOTHING);
        });
        edges.of(3, "BEYOND", due -> {
            KissClearing x = new KissClearing();
            Due.fill(x, 0, 5, 6);
            x.row(1, 40);
            x.row(2, 0);
            for (int i : new int[] {-1, 2, 39, 40, Due.MIN, Due.MAX}) {
                due.finds(x, "lay(0, " + i + ", 1)", () -> x.lay(0, i, 1), Due.BEYOND);
            }
            due.finds(x, "lay(1, 40, 1) of a full row", () -> x.lay(1, 40, 1), Due.BEYOND);
            due.finds(x, "lay(2, 0, 1) of an empty row", () -> x.lay(2, 0, 1), Due.BEYOND);
            due.holds(x, "behind refused ones", 0, 5, 6);
        });
    }

    private static void at(Edges edges) {
        edges.of(4, "Place i of a ROW, told by asked(): 1", due -> {
            KissClearing x = new KissClearing();
            x.row(5, 40);
            x.lay(5, 0, Due.MIN);
            x.lay(5, 39, Due.MAX);
            due.tells(x, "at(5, 0)", x.at(5, 0), 1, Due.MIN);
            due.tells(x, "at(5, 39)", x.at(5, 39), 1, Due.MAX);
            due.tells(x, "at(5, 20)", x.at(5, 20), 1, 0);
            due.tells(x, "at(5, 0), as it was", x.at(5, 0), 1, Due.MIN);
        });
        edges.of(4, "BAD", due -> {
            KissClearing x = new KissClearing();
            for (int r : NO_ROWS) {
                due.refuses(x, "at(" + r + ", 0)", () -> x.at(r, 0), Due.BAD);
                due.refuses(x, "at(" + r + ", -1): BAD is ahead", () -> x.at(r, -1), Due.BAD);
            }
        });
        edges.of(4, "NOTHING", due -> {
            KissClearing x = new KissClearing();
            due.finds(x, "at(5, 0)", () -> x.at(5, 0), Due.NOTHING);
            x.row(0, 2);
            x.tear(0);
            due.finds(x, "at(0, 0) of a torn one", () -> x.at(0, 0), Due.NOTHING);
            due.finds(x, "at(0, -1): NOTHING is ahead of BEYOND", () -> x.at(0, -1), Due.NOTHING);
            due.finds(x, "at(0, MAX): NOTHING is ahead of BEYOND", () -> x.at(0, Due.MAX), Due.NOTHING);
        });
        edges.of(4, "BEYOND", due -> {
            KissClearing x = new KissClearing();
            Due.fill(x, 0, 5, 6);
            x.row(1, 40);
            x.row(2, 0);
            for (int i : new int[] {-1, 2, 39, 40, Due.MIN, Due.MAX}) {
                due.finds(x, "at(0, " + i + ")", () -> x.at(0, i), Due.BEYOND);
            }
            due.finds(x, "at(1, 40) of a full row", () -> x.at(1, 40), Due.BEYOND);
            due.finds(x, "at(2, 0) of an empty row", () -> x.at(2, 0), Due.BEYOND);
            Due.fill(x, 1, 1, 2, 3);
            x.row(1, 2);
            due.finds(x, "at(1, 2) of a row that was longer", () -> x.at(1, 2), Due.BEYOND);
        });
    }

    private static void tear(Edges edges) {
        edges.of(5, "A ROW is missing: 1", due -> {
            KissClearing x = new KissClearing();
            x.row(0, 0);
            x.row(1, 1);
            x.row(5, 40);
            due.is("tear(0), of none", x.tear(0), 1);
            due.is("tear(5), of 40", x.tear(5), 1);
            due.is("count(6)", x.count(6), 1);
            due.finds(x, "at(0, 0)", () -> x.at(0, 0), Due.NOTHING);
            due.finds(x, "at(5, 0)", () -> x.at(5, 0), Due.NOTHING);
            due.tells(x, "at(1, 0), which stays", x.at(1, 0), 1, 0);
            due.is("asked() is not told", x.asked(), 0);
            due.is("row(5, 1) again", x.row(5, 1), 1);
            due.holds(x, "behind tear()", 5, 0);
        });
        edges.of(5, "BAD", due -> {
            KissClearing x = new KissClearing();
            for (int r : NO_ROWS) {
                due.refuses(x, "tear(" + r + ")", () -> x.tear(r), Due.BAD);
            }
        });
        edges.of(5, "NOTHING", due -> {
            KissClearing x = new KissClearing();
            due.finds(x, "tear(0) at first", () -> x.tear(0), Due.NOTHING);
            x.row(5, 3);
            x.tear(5);
            due.finds(x, "tear(5) twice", () -> x.tear(5), Due.NOTHING);
        });
    }

    private static void copy(Edges edges) {
        edges.of(6, "n places of a ROW, from one on, come to those of another one", due -> {
            KissClearing x = new KissClearing();
            Due.fill(x, 0, 1, 2, 3, 4);
            Due.fill(x, 5, 7, 8, 9);
            due.is("copy(0, 2, 5, 1, 2), up to both ends", x.copy(0, 2, 5, 1, 2), 1);
            due.holds(x, "taken from", 0, 1, 2, 3, 4);
            due.holds(x, "come to", 5, 7, 3, 4);
            due.is("copy(5, 0, 0, 0, 3), the whole row", x.copy(5, 0, 0, 0, 3), 1);
            due.holds(x, "come to", 0, 7, 3, 4, 4);
            x.row(1, 40);
            x.row(2, 40);
            x.lay(1, 0, 5);
            x.lay(1, 39, 6);
            due.is("copy(1, 0, 2, 0, 40)", x.copy(1, 0, 2, 0, 40), 1);
            due.tells(x, "at(2, 0)", x.at(2, 0), 1, 5);
            due.tells(x, "at(2, 39)", x.at(2, 39), 1, 6);
        });
        edges.of(6, "(perhaps itself) from one on, as if taken ahead: 1", due -> {
            KissClearing x = new KissClearing();
            Due.fill(x, 0, 1, 2, 3, 4, 5);
            due.is("copy(0, 0, 0, 1, 4), further on", x.copy(0, 0, 0, 1, 4), 1);
            due.holds(x, "copied further on", 0, 1, 1, 2, 3, 4);
            due.is("copy(0, 1, 0, 0, 4), back", x.copy(0, 1, 0, 0, 4), 1);
            due.holds(x, "copied back", 0, 1, 2, 3, 4, 4);
            due.is("copy(0, 0, 0, 0, 5), to where it was", x.copy(0, 0, 0, 0, 5), 1);
            due.holds(x, "copied to where it was", 0, 1, 2, 3, 4, 4);
        });
    }

    private static void copyRefused(Edges edges) {
        edges.of(6, "BAD", due -> {
            KissClearing x = new KissClearing();
            x.row(0, 2);
            for (int r : NO_ROWS) {
                due.refuses(x, "copy(" + r + ", 0, 0, 0, 1)", () -> x.copy(r, 0, 0, 0, 1), Due.BAD);
                due.refuses(x, "copy(0, 0, " + r + ", 0, 1)", () -> x.copy(0, 0, r, 0, 1), Due.BAD);
                due.refuses(x, "copy(" + r + ", 0, " + r + ", 0, 0)", () -> x.copy(r, 0, r, 0, 0), Due.BAD);
            }
        });
        edges.of(6, "SIZE: n below 0", due -> {
            KissClearing x = new KissClearing();
            Due.fill(x, 0, 1, 2, 3);
            due.finds(x, "copy(0, 0, 0, 1, -1)", () -> x.copy(0, 0, 0, 1, -1), Due.SIZE);
            due.finds(x, "copy(0, 0, 0, 1, MIN)", () -> x.copy(0, 0, 0, 1, Due.MIN), Due.SIZE);
        });
        edges.of(6, "NOTHING: either", due -> {
            KissClearing x = new KissClearing();
            x.row(0, 2);
            due.finds(x, "copy(1, 0, 0, 0, 1)", () -> x.copy(1, 0, 0, 0, 1), Due.NOTHING);
            due.finds(x, "copy(0, 0, 1, 0, 1)", () -> x.copy(0, 0, 1, 0, 1), Due.NOTHING);
            due.finds(x, "copy(1, 0, 1, 0, 0)", () -> x.copy(1, 0, 1, 0, 0), Due.NOTHING);
            due.finds(x, "copy(1, 0, 2, 0, 0)", () -> x.copy(1, 0, 2, 0, 0), Due.NOTHING);
        });
        edges.of(6, "BEYOND: not so many there", due -> {
            KissClearing x = new KissClearing();
            Due.fill(x, 0, 1, 2, 3);
            Due.fill(x, 1, 7, 8);
            int[][] beyond = {
                {0, 0, 1, 0, 3}, {0, 2, 1, 0, 2}, {0, 3, 1, 0, 1}, {1, 0, 0, 0, 3}, {0, 0, 1, 1, 2}, {0, 0, 1, 2, 1},
                {0, -1, 1, 0, 1}, {0, 0, 1, -1, 1}, {0, 0, 1, 0, Due.MAX}, {0, 1, 1, 0, Due.MAX}, {1, 0, 0, 1, Due.MAX},
                {0, Due.MAX, 1, 0, 1}, {0, 0, 1, Due.MAX, 1}, {0, Due.MAX, 1, Due.MAX, Due.MAX},
                {0, Due.MIN, 1, 0, Due.MAX}, {0, 0, 1, Due.MIN, Due.MAX}, {0, Due.MIN, 1, 0, 1}};
            for (int[] b : beyond) {
                due.finds(x, "copy of " + java.util.Arrays.toString(b), () -> x.copy(b[0], b[1], b[2], b[3], b[4]), Due.BEYOND);
            }
            due.holds(x, "behind refused ones", 0, 1, 2, 3);
            due.holds(x, "behind refused ones", 1, 7, 8);
        });
        edges.of(6, "(also with n 0, if i, j is below 0, or above its size)", due -> {
            KissClearing x = new KissClearing();
            Due.fill(x, 0, 1, 2, 3);
            Due.fill(x, 1, 7, 8);
            x.row(2, 0);
            due.finds(x, "copy(0, -1, 1, 0, 0)", () -> x.copy(0, -1, 1, 0, 0), Due.BEYOND);
            due.finds(x, "copy(0, 0, 1, -1, 0)", () -> x.copy(0, 0, 1, -1, 0), Due.BEYOND);
            due.finds(x, "copy(0, 4, 1, 0, 0)", () -> x.copy(0, 4, 1, 0, 0), Due.BEYOND);
            due.finds(x, "copy(0, 0, 1, 3, 0)", () -> x.copy(0, 0, 1, 3, 0), Due.BEYOND);
            due.finds(x, "copy(1, 3, 0, 0, 0)", () -> x.copy(1, 3, 0, 0, 0), Due.BEYOND);
            due.finds(x, "copy(2, 1, 0, 0, 0)", () -> x.copy(2, 1, 0, 0, 0), Due.BEYOND);
            due.is("copy(0, 3, 1, 2, 0), just behind both", x.copy(0, 3, 1, 2, 0), 1);
            due.is("copy(1, 2, 0, 3, 0), just behind both", x.copy(1, 2, 0, 3, 0), 1);
            due.is("copy(2, 0, 2, 0, 0), of an empty row", x.copy(2, 0, 2, 0, 0), 1);
            due.holds(x, "behind copies of none", 0, 1, 2, 3);
        });
        edges.of(6, "(In this order.)", due -> {
            KissClearing x = new KissClearing();
            x.row(0, 2);
            due.refuses(x, "BAD ahead of SIZE", () -> x.copy(6, 0, 0, 0, -1), Due.BAD);
            due.refuses(x, "BAD ahead of NOTHING", () -> x.copy(5, 0, 6, 0, 1), Due.BAD);
            due.refuses(x, "BAD ahead of BEYOND", () -> x.copy(0, 3, -1, 0, 1), Due.BAD);
            due.finds(x, "SIZE ahead of NOTHING, from", () -> x.copy(5, 0, 0, 0, -1), Due.SIZE);
            due.finds(x, "SIZE ahead of NOTHING, to", () -> x.copy(0, 0, 5, 0, -1), Due.SIZE);
            due.finds(x, "SIZE ahead of BEYOND", () -> x.copy(0, 3, 0, -1, -1), Due.SIZE);
            due.finds(x, "NOTHING ahead of BEYOND, from", () -> x.copy(5, 0, 0, 9, 1), Due.NOTHING);
            due.finds(x, "NOTHING ahead of BEYOND, to", () -> x.copy(0, 9, 5, 0, 1), Due.NOTHING);
        });
    }

    private static void mean(Edges edges) {
        edges.of(7, "The mean of a ROW's ints, cut, told by asked(): 1", due -> {
            KissClearing x = new KissClearing();
            int[][] rows = {{5}, {1, 2}, {2, 3, 3}, {-1, -2}, {-2, -3, -3}, {-1, 0}, {1, 0}, {-5, 4}, {0, 0, 0},
                {Due.MAX, Due.MAX}, {Due.MIN, Due.MIN, Due.MIN}, {Due.MIN, Due.MAX}, {Due.MAX, Due.MAX, -1}};
            int[] means = {5, 1, 2, -1, -2, 0, 0, 0, 0, Due.MAX, Due.MIN, 0, 1431655764};
            for (int i = 0; i < rows.length; i++) {
                Due.fill(x, 0, rows[i]);
                due.tells(x, "mean of " + java.util.Arrays.toString(rows[i]), x.mean(0), 1, means[i]);
            }
            x.row(5, 40);
            for (int i = 0; i < 40; i++) {
                x.lay(5, i, Due.MIN);
            }
            due.tells(x, "mean of 40", x.mean(5), 1, Due.MIN);
        });
        edges.of(7, "BAD", due -> {
            KissClearing x = new KissClearing();
            for (int r : NO_ROWS) {
                due.refuses(x, "mean(" + r + ")", () -> x.mean(r), Due.BAD);
            }
        });
        edges.of(7, "NOTHING", due -> {
            KissClearing x = new KissClearing();
            due.finds(x, "mean(0)", () -> x.mean(0), Due.NOTHING);
            x.row(5, 3);
            x.tear(5);
            due.finds(x, "mean(5) of a torn one", () -> x.mean(5), Due.NOTHING);
        });
        edges.of(7, "NOUGHT", due -> {
            KissClearing x = new KissClearing();
            x.row(0, 0);
            due.finds(x, "mean(0) of none", () -> x.mean(0), Due.NOUGHT);
            Due.fill(x, 0, 0);
            due.tells(x, "mean(0) of a single 0", x.mean(0), 1, 0);
        });
    }
}
