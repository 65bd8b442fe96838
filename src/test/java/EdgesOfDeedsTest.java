/** Promises 15 to 22, sentence by sentence: owe, meet, clear, endorse, week, undo, keep, on. */
public final class EdgesOfDeedsTest {
    private static final int[] NO_PLACES = {-1, 3, Due.MIN, Due.MAX};
    private static final String TWELVE = " x01h1 x01h1 x01h1 x01h1 x01h1 x01h1 x01h1 x01h1 x01h1 x01h1 x01h1 x01h1";

    public static void main(String[] args) {
        look().end();
    }

    static Edges look() {
        Edges edges = new Edges();
        owe(edges);
        meet(edges);
        clear(edges);
        clearRefused(edges);
        endorse(edges);
        endorseRefused(edges);
        week(edges);
        undo(edges);
        keep(edges);
        on(edges);
        edges.wholly(15, 22);
        return edges;
    }

    private static void owe(Edges edges) {
        edges.of(15, "A DRAFT comes, told by 100 times WHO, 10 times TO WHOM, and the SORT, of v KISSES (1 .. 9)", due -> {
            KissClearing x = Due.village("pppppp");
            int[][] drafts = {{0, 1, 0, 1}, {0, 5, 2, 9}, {5, 0, 0, 9}, {5, 4, 2, 1}, {1, 0, 1, 5}};
            for (int i = 0; i < drafts.length; i++) {
                int[] d = drafts[i];
                due.is("owe of " + java.util.Arrays.toString(d), x.owe(100 * d[0] + 10 * d[1] + d[2], d[3]), i);
                for (int what = 0; what < 4; what++) {
                    due.tells(x, "draft(" + i + ", " + what + ")", x.draft(i, what), 1, d[what]);
                }
            }
            due.is("deeds", x.count(2), drafts.length);
        });
        edges.of(15, "its number", due -> {
            KissClearing x = Due.village("ppp x01h1 x12h1");
            for (int i = 2; i < 12; i++) {
                due.is("owe(200, 1)", x.owe(200, 1), i);
            }
            due.is("undo(1)", x.undo(1), 9);
            due.is("the next number behind undo(1)", x.owe(12, 4), 3);
            due.tells(x, "draft(3, 3)", x.draft(3, 3), 1, 4);
            x.meet(0, 1);
            due.is("numbers of paid ones are not used again", x.owe(12, 4), 4);
        });
        edges.of(15, "BAD", due -> {
            KissClearing x = Due.village("ppp");
            int[] bad = {-1, -10, -100, 0, 1, 110, 220, 222, 30, 130, 300, 310, 13, 19, 99, 1000, 1010, 2147483647, -2147483648};
            for (int told : bad) {
                due.refuses(x, "owe(" + told + ", 1)", () -> x.owe(told, 1), Due.BAD);
            }
            for (int v : new int[] {0, 10, -1, Due.MIN, Due.MAX}) {
                due.refuses(x, "owe(10, " + v + ")", () -> x.owe(10, v), Due.BAD);
            }
            KissClearing none = new KissClearing();
            due.refuses(none, "owe(10, 1) of no persons", () -> none.owe(10, 1), Due.BAD);
        });
        edges.of(15, "FULL: 12 DRAFTS", due -> {
            KissClearing x = Due.village("pp" + TWELVE);
            due.refuses(x, "owe(10, 1) as draft 13", () -> x.owe(10, 1), Due.FULL);
            due.refuses(x, "owe(10, 0) as draft 13: BAD is ahead of FULL", () -> x.owe(10, 0), Due.BAD);
            x.meet(0, 1);
            due.refuses(x, "owe(10, 1), though all are paid", () -> x.owe(10, 1), Due.FULL);
            Due.write(x, 0, "pp" + TWELVE.substring(6));
            x.village(0);
            due.is("owe(10, 1) as draft 12", x.owe(10, 1), 11);
            due.refuses(x, "owe(10, 1) as draft 13", () -> x.owe(10, 1), Due.FULL);
        });
        edges.of(15, "or 40 DEEDS", due -> {
            KissClearing x = Due.full(Due.village("pp"), 0, 1);
            due.refuses(x, "owe(10, 1) as deed 41", () -> x.owe(10, 1), Due.FULL);
            due.refuses(x, "owe(0, 1) as deed 41: BAD is ahead of FULL", () -> x.owe(0, 1), Due.BAD);
            x.undo(39);
            due.is("owe(10, 1) as deed 40", x.owe(10, 1), 0);
            due.refuses(x, "owe(10, 1) as deed 41", () -> x.owe(10, 1), Due.FULL);
        });
    }

    private static void meet(Edges edges) {
        edges.of(16, "TWO MEET: how many KISSES are given (paid; those that were netted aside)", due -> {
            KissClearing x = Due.village("ppp x01h5 x10h5 x01c9 x10c1 x01t2 x10t2 x12h7");
            due.is("meet(1, 0)", x.meet(1, 0), 8 + 2 + 2);
            due.kisses(x, "behind it", 0, 0, 0, 0, 0, 0, 7);
            due.is("meet(1, 0) again, of none", x.meet(1, 0), 0);
            due.is("deeds: the second one, too", x.count(2), 2);
        });
        edges.of(16, "how many were netted, each way, by asked()", due -> {
            KissClearing x = Due.village("ppp x01h5 x10h3 x01c4 x10c9 x01t6 x10t6 x02h9 x20c9");
            due.tells(x, "meet(0, 1)", x.meet(0, 1), 2 + 5 + 12, 3 + 4);
            due.tells(x, "meet(0, 2): hands are not netted with cheeks", x.meet(0, 2), 18, 0);
            due.tells(x, "meet(1, 2) of none", x.meet(1, 2), 0, 0);
        });
        edges.of(16, "BAD", due -> {
            KissClearing x = Due.village("pp x01h1");
            for (int p : new int[] {-1, 2, Due.MIN, Due.MAX}) {
                due.refuses(x, "meet(" + p + ", 0)", () -> x.meet(p, 0), Due.BAD);
                due.refuses(x, "meet(0, " + p + ")", () -> x.meet(0, p), Due.BAD);
            }
            KissClearing none = new KissClearing();
            due.refuses(none, "meet(0, 1) of no persons", () -> none.meet(0, 1), Due.BAD);
        });
        edges.of(16, "BAD: also the same", due -> {
            KissClearing x = Due.village("pp x01h1");
            due.refuses(x, "meet(0, 0)", () -> x.meet(0, 0), Due.BAD);
            due.refuses(x, "meet(1, 1)", () -> x.meet(1, 1), Due.BAD);
        });
        edges.of(16, "FULL: 40 DEEDS", due -> {
            KissClearing x = Due.full(Due.village("ppp x01h5"), 1, 2);
            due.refuses(x, "meet(0, 1) as deed 41", () -> x.meet(0, 1), Due.FULL);
            due.refuses(x, "meet(0, 0) as deed 41: BAD is ahead of FULL", () -> x.meet(0, 0), Due.BAD);
            x.undo(39);
            due.is("meet(0, 1) as deed 40", x.meet(0, 1), 5);
        });
    }

    private static void clear(Edges edges) {
        edges.of(17, "A RING IS CLEARED (a ROW of DRAFTS): by how many KISSES each", due -> {
            KissClearing x = Due.village("ppp x01h9 x12h3 x20h4 x01c1 x12c1 x20c1");
            Due.fill(x, 0, 2, 0, 1);
            due.is("clear(0), begun anywhere", x.clear(0), 3);
            due.kisses(x, "behind it", 6, 0, 1, 1, 1, 1);
            Due.fill(x, 5, 3, 4, 5);
            due.is("clear(5) to nothing", x.clear(5), 1);
            due.kisses(x, "behind it", 6, 0, 1, 0, 0, 0);
            due.holds(x, "which stays", 5, 3, 4, 5);
            due.is("deeds", x.count(2), 2);
            KissClearing six = Due.village("pppppp x01h2 x12h2 x23h2 x34h2 x45h2 x50h1");
            Due.fill(six, 0, 0, 1, 2, 3, 4, 5);
            due.is("clear(0) of six", six.clear(0), 1);
            due.kisses(six, "behind it", 1, 1, 1, 1, 1, 0);
        });
        edges.of(17, "BAD", due -> {
            KissClearing x = Due.village("ppp x01h1 x12h1 x20h1");
            for (int r : new int[] {-1, 6, Due.MIN, Due.MAX}) {
                due.refuses(x, "clear(" + r + ")", () -> x.clear(r), Due.BAD);
            }
        });
        edges.of(17, "NOTHING", due -> {
            KissClearing x = Due.village("ppp x01h1 x12h1 x20h1");
            for (int r = 0; r < 6; r++) {
                int row = r;
                due.finds(x, "clear(" + r + ")", () -> x.clear(row), Due.NOTHING);
            }
        });
        edges.of(17, "UNLIKE: a number that is no DRAFT", due -> {
            KissClearing x = Due.village("ppp x01h1 x12h1 x20h1");
            for (int no : new int[] {-1, 3, 12, Due.MIN, Due.MAX}) {
                for (int place = 0; place < 3; place++) {
                    Due.fill(x, 0, 0, 1, 2);
                    x.lay(0, place, no);
                    due.finds(x, "clear(0) with " + no + " at " + place, () -> x.clear(0), Due.UNLIKE);
                }
            }
            x.row(0, 40);
            x.lay(0, 39, 3);
            due.finds(x, "clear(0) with 3 at 39", () -> x.clear(0), Due.UNLIKE);
        });
    }

    private static void noRing(Due due, KissClearing x, int... numbers) {
        Due.fill(x, 0, numbers);
        due.refuses(x, "clear of " + java.util.Arrays.toString(numbers), () -> x.clear(0), Due.STATE);
    }

    private static void clearRefused(Edges edges) {
        edges.of(17, "STATE: it is no such ring", due -> {
            KissClearing x = Due.village("pppp x01h5 x12h3 x20h4 x10h2 x20c4 x23h9 x32h1 x01t1 x12t1 x20t1");
            noRing(due, x);
            noRing(due, x, 0);
            noRing(due, x, 0, 3);
            noRing(due, x, 0, 1);
            noRing(due, x, 2, 1, 0);
            noRing(due, x, 0, 1, 5);
            noRing(due, x, 5, 0, 1);
            noRing(due, x, 0, 1, 4);
            noRing(due, x, 4, 0, 1);
            noRing(due, x, 7, 8, 9);
            noRing(due, x, 0, 0, 0);
            noRing(due, x, 0, 1, 5, 6, 2);
            noRing(due, x, 0, 1, 2, 0, 1, 2);
            noRing(due, x, new int[40]);
            x.meet(1, 2);
            noRing(due, x, 0, 1, 2);
        });
        edges.of(17, "FULL: 40 DEEDS", due -> {
            KissClearing x = Due.full(Due.village("pppp x01h1 x12h1 x20h1"), 0, 3);
            Due.fill(x, 0, 0, 1, 2);
            due.refuses(x, "clear(0) as deed 41", () -> x.clear(0), Due.FULL);
            x.undo(39);
            due.is("clear(0) as deed 40", x.clear(0), 1);
        });
        edges.of(17, "(In this order.)", due -> {
            KissClearing x = Due.full(Due.village("pppp x01h1 x12h1 x20h1"), 0, 3);
            due.refuses(x, "BAD ahead of FULL", () -> x.clear(6), Due.BAD);
            due.finds(x, "NOTHING ahead of FULL", () -> x.clear(1), Due.NOTHING);
            Due.fill(x, 1, 3);
            due.finds(x, "UNLIKE ahead of STATE, FULL", () -> x.clear(1), Due.UNLIKE);
            Due.fill(x, 1, 0, 0, 3);
            due.finds(x, "UNLIKE ahead of STATE, seen first", () -> x.clear(1), Due.UNLIKE);
            Due.fill(x, 1, 0, 1);
            due.refuses(x, "STATE ahead of FULL", () -> x.clear(1), Due.STATE);
        });
    }

    private static void endorse(Edges edges) {
        edges.of(18, "A DRAFT IS ENDORSED to a PERSON: how often it was then", due -> {
            KissClearing x = Due.village("pppppp x01h5" + TWELVE.substring(6, 66) + " x50t9");
            due.is("endorse(0, 5)", x.endorse(0, 5), 1);
            due.tells(x, "draft(0, 1)", x.draft(0, 1), 1, 5);
            due.is("endorse(0, 1), back", x.endorse(0, 1), 2);
            due.tells(x, "draft(0, 1)", x.draft(0, 1), 1, 1);
            due.tells(x, "draft(0, 3), which stays", x.draft(0, 3), 1, 5);
            due.is("endorse(11, 4)", x.endorse(11, 4), 1);
            due.is("deeds", x.count(2), 3);
        });
        edges.of(18, "BAD", due -> {
            KissClearing x = Due.village("ppp x01h5");
            for (int i : new int[] {-1, 1, 12, Due.MIN, Due.MAX}) {
                due.refuses(x, "endorse(" + i + ", 2)", () -> x.endorse(i, 2), Due.BAD);
            }
            for (int p : new int[] {-1, 3, 6, Due.MIN, Due.MAX}) {
                due.refuses(x, "endorse(0, " + p + ")", () -> x.endorse(0, p), Due.BAD);
            }
            KissClearing none = new KissClearing();
            due.refuses(none, "endorse(0, 0) of no persons", () -> none.endorse(0, 0), Due.BAD);
        });
        edges.of(18, "BAD: also WHO", due -> {
            KissClearing x = Due.village("ppp x12h5");
            due.refuses(x, "endorse(0, 1)", () -> x.endorse(0, 1), Due.BAD);
            x.meet(1, 2);
            due.refuses(x, "endorse(0, 1) of a paid one: BAD is ahead of STATE", () -> x.endorse(0, 1), Due.BAD);
        });
    }

    private static void endorseRefused(Edges edges) {
        edges.of(18, "STATE: it is not OPEN", due -> {
            KissClearing x = Due.village("ppp x01h5");
            x.meet(0, 1);
            due.refuses(x, "endorse(0, 2) of a paid one", () -> x.endorse(0, 2), Due.STATE);
            x.undo(0);
            for (int i = 0; i < 4; i++) {
                x.week();
            }
            due.refuses(x, "endorse(0, 2) of a sour one", () -> x.endorse(0, 2), Due.STATE);
            x.undo(3);
            due.is("endorse(0, 2) ahead of that", x.endorse(0, 2), 1);
        });
        edges.of(18, "or was twice", due -> {
            KissClearing x = Due.village("ppppp x01h5 x01h6");
            x.endorse(0, 2);
            x.endorse(0, 3);
            due.refuses(x, "endorse(0, 4) a third time", () -> x.endorse(0, 4), Due.STATE);
            due.refuses(x, "endorse(0, 1) a third time, back", () -> x.endorse(0, 1), Due.STATE);
            due.is("endorse(1, 4) of another one", x.endorse(1, 4), 1);
            x.undo(1);
            due.is("endorse(0, 4), when the second time is undone", x.endorse(0, 4), 2);
        });
        edges.of(18, "or is owed to that one", due -> {
            KissClearing x = Due.village("ppp x01h5");
            due.refuses(x, "endorse(0, 1)", () -> x.endorse(0, 1), Due.STATE);
            x.endorse(0, 2);
            due.refuses(x, "endorse(0, 2) again", () -> x.endorse(0, 2), Due.STATE);
            due.is("endorse(0, 1), to whom it was owed", x.endorse(0, 1), 2);
        });
        edges.of(18, "FULL", due -> {
            KissClearing x = Due.full(Due.village("ppp x01h5"), 1, 2);
            due.refuses(x, "endorse(0, 2) as deed 41", () -> x.endorse(0, 2), Due.FULL);
            x.undo(39);
            due.is("endorse(0, 2) as deed 40", x.endorse(0, 2), 1);
        });
        edges.of(18, "(FULL last.)", due -> {
            KissClearing x = Due.village("pppp x01h5 x01h1 x23h1");
            x.endorse(1, 2);
            x.endorse(1, 3);
            x.meet(2, 3);
            Due.full(x, 1, 2);
            due.refuses(x, "endorse(0, 4)", () -> x.endorse(0, 4), Due.BAD);
            due.refuses(x, "endorse(0, 0), WHO", () -> x.endorse(0, 0), Due.BAD);
            due.refuses(x, "endorse(0, 1), owed to that one", () -> x.endorse(0, 1), Due.STATE);
            due.refuses(x, "endorse(1, 1), twice endorsed", () -> x.endorse(1, 1), Due.STATE);
            due.refuses(x, "endorse(2, 0), paid", () -> x.endorse(2, 0), Due.STATE);
            due.refuses(x, "endorse(0, 2)", () -> x.endorse(0, 2), Due.FULL);
        });
    }

    private static void week(Edges edges) {
        edges.of(19, "A WEEK goes by: how many KISSES went sour", due -> {
            KissClearing x = Due.village("pag x01h5 x02c5 x10h5 x02t9");
            for (int i = 1; i <= 3; i++) {
                due.is("week " + i, x.week(), 0);
            }
            due.is("week 4, with what grew in it", x.week(), 5 + 4 + 5 + 8 + 5);
            due.kisses(x, "behind week 4", 0, 0, 0, 9 + 8);
            due.is("week 5", x.week(), 0);
            due.is("deeds", x.count(2), 5);
            due.is("asked(), which week() does not tell by", x.asked(), 17);
        });
        edges.of(19, "STATE: no PERSONS", due -> {
            KissClearing none = new KissClearing();
            due.refuses(none, "week()", none::week, Due.STATE);
            due.is("week() of persons without drafts", Due.village("pp").week(), 0);
        });
        edges.of(19, "FULL", due -> {
            KissClearing x = Due.full(Due.village("ag x01t5"), 0, 1);
            x.undo(0);
            for (int i = 0; i < 40; i++) {
                due.is("week " + (i + 1), x.week(), 0);
            }
            due.refuses(x, "week() as deed 41", x::week, Due.FULL);
            due.kisses(x, "behind it", 85);
        });
        edges.of(19, "(FULL last.)", due -> {
            KissClearing x = new KissClearing();
            due.refuses(x, "week() of no persons", x::week, Due.STATE);
            Due.write(x, 0, "pp");
            x.village(0);
            due.refuses(Due.full(x, 0, 1), "week() as deed 41", x::week, Due.FULL);
        });
    }

    /** A village with the first n of five deeds, one of each manner. */
    private static KissClearing withDeeds(int n) {
        KissClearing x = Due.village("pppp x01h5 x12h4 x20h3 x23t1");
        Due.fill(x, 0, 0, 1, 2);
        for (int i = 0; i < n; i++) {
            int done = i == 0 ? x.owe(302, 9) : i == 1 ? x.week() : i == 2 ? x.clear(0) : i == 3 ? x.endorse(4, 1) : x.meet(2, 3);
            if (done < 0) {
                throw new IllegalStateException("deed " + i + " was refused: " + done);
            }
        }
        return x;
    }

    private static void undo(Edges edges) {
        edges.of(20, "DEEDS from number n on", due -> {
            for (int n = 0; n <= 5; n++) {
                KissClearing x = withDeeds(5);
                due.is("undo(" + n + ") of five", x.undo(n), 5 - n);
                due.is("deeds behind undo(" + n + ")", x.count(2), n);
                due.is("digest() behind undo(" + n + ")", x.digest(), withDeeds(n).digest());
            }
            KissClearing x = withDeeds(5);
            for (int n = 4; n >= 0; n--) {
                due.is("undo(" + n + "), one by one", x.undo(n), 1);
                due.is("digest() behind undo(" + n + ")", x.digest(), withDeeds(n).digest());
            }
            KissClearing often = Due.village("gp x10h1");
            for (int n = 0; n < 200; n++) {
                due.is("week " + n + ", each undone", often.week() + often.undo(0), 1);
            }
            due.kisses(often, "behind 200 weeks that were undone", 1);
        });
        edges.of(20, "(n 0 to how many there are: then 0)", due -> {
            KissClearing x = Due.full(Due.village("pp x01h5"), 0, 1);
            due.is("undo(40)", x.undo(40), 0);
            due.kisses(x, "behind undo(40)", 0);
            due.is("undo(0)", x.undo(0), 40);
            due.kisses(x, "behind undo(0)", 5);
            due.is("undo(0) again", x.undo(0), 0);
            due.is("undo(0) of no persons", new KissClearing().undo(0), 0);
        });
        edges.of(20, "are undone (DRAFTS that came go): how many", due -> {
            KissClearing x = Due.village("pp x01h5");
            for (int i = 0; i < 11; i++) {
                x.owe(100, 1);
            }
            due.is("undo(10)", x.undo(10), 1);
            due.is("drafts", x.count(1), 11);
            due.refuses(x, "draft(11, 0)", () -> x.draft(11, 0), Due.BAD);
            due.is("undo(0)", x.undo(0), 10);
            due.kisses(x, "behind undo(0)", 5);
            due.is("between(1, 0, 0)", x.between(1, 0, 0), 0);
            due.tells(x, "owing of 1", x.person(1, 1), 1, 0);
            due.tells(x, "owed of 0", x.person(0, 2), 1, 0);
            due.is("open ones", x.count(3), 1);
            due.is("kisses", x.count(4), 5);
            due.is("net(0)", x.net(0), 5);
            due.is("left(0)", x.left(0), 5);
            due.is("week() 1", x.week(), 0);
            due.is("trust(1, 0)", x.trust(1, 0), Due.NONE);
            due.tells(x, "pairs()", x.pairs(), 1, 5);
            due.tells(x, "mistletoe()", x.mistletoe(), 0, 3);
        });
        edges.of(20, "BAD", due -> {
            KissClearing x = Due.village("pp x01h5");
            x.week();
            for (int n : new int[] {-1, 2, 40, 41, Due.MIN, Due.MAX}) {
                due.refuses(x, "undo(" + n + ") of one deed", () -> x.undo(n), Due.BAD);
            }
            Due.full(x, 0, 1);
            due.refuses(x, "undo(41) of 40", () -> x.undo(41), Due.BAD);
            x.undo(1);
            due.refuses(x, "undo(2) of deeds that are undone", () -> x.undo(2), Due.BAD);
            KissClearing none = new KissClearing();
            due.refuses(none, "undo(1) of no persons", () -> none.undo(1), Due.BAD);
            due.refuses(none, "undo(-1) of no persons", () -> none.undo(-1), Due.BAD);
        });
    }

    private static void keep(Edges edges) {
        edges.of(21, "The VILLAGE (DRAFTS, DEEDS) is kept in a place (0 .. 2): how many DEEDS", due -> {
            KissClearing x = Due.village("pp x01t5 x01t4");
            due.is("keep(0) of no deeds", x.keep(0), 0);
            x.week();
            due.is("keep(1)", x.keep(1), 1);
            Due.full(x, 0, 1);
            due.is("keep(2) of 40", x.keep(2), 40);
            due.is("kept ones", x.count(8), 3);
            due.is("deeds stay", x.count(2), 40);
            due.is("on(0)", x.on(0), 0);
            due.kisses(x, "kept in 0", 5, 4);
            due.tells(x, "weeks kept in 0", x.draft(0, 4), 1, 0);
            due.is("on(1)", x.on(1), 1);
            due.kisses(x, "kept in 1", 5, 4);
            due.tells(x, "weeks kept in 1", x.draft(0, 4), 1, 1);
            due.is("on(2)", x.on(2), 40);
            due.kisses(x, "kept in 2", 0, 0);
            x.undo(0);
            x.owe(10, 1);
            due.is("keep(2) over it", x.keep(2), 1);
            due.is("kept ones", x.count(8), 3);
            due.is("on(2)", x.on(2), 1);
            due.is("drafts", x.count(1), 3);
        });
        edges.of(21, "BAD", due -> {
            KissClearing x = Due.village("pp");
            KissClearing none = new KissClearing();
            for (int k : NO_PLACES) {
                due.refuses(x, "keep(" + k + ")", () -> x.keep(k), Due.BAD);
                due.refuses(none, "keep(" + k + ") of no persons: BAD is ahead of STATE", () -> none.keep(k), Due.BAD);
            }
        });
        edges.of(21, "STATE: no PERSONS", due -> {
            KissClearing none = new KissClearing();
            for (int k = 0; k < 3; k++) {
                int place = k;
                due.refuses(none, "keep(" + k + ")", () -> none.keep(place), Due.STATE);
            }
        });
    }

    private static void on(Edges edges) {
        edges.of(22, "The VILLAGE is as it was kept: how many DEEDS", due -> {
            KissClearing x = Due.village("ppp x01h5 x12t4");
            x.week();
            x.endorse(0, 2);
            x.keep(1);
            long digest = x.digest();
            x.meet(0, 2);
            x.owe(10, 1);
            due.is("on(1)", x.on(1), 2);
            due.is("digest() behind on(1)", x.digest(), digest);
            x.undo(0);
            x.week();
            x.week();
            x.owe(12, 9);
            due.is("on(1), though other deeds were done", x.on(1), 2);
            due.is("digest() behind on(1)", x.digest(), digest);
            due.is("undo(1): deeds are as they were kept", x.undo(1), 1);
            due.tells(x, "draft(0, 1) behind undo(1)", x.draft(0, 1), 1, 1);
            due.tells(x, "draft(0, 4) behind undo(1)", x.draft(0, 4), 1, 1);
            due.is("undo(0)", x.undo(0), 1);
            due.tells(x, "draft(0, 4) behind undo(0)", x.draft(0, 4), 1, 0);
            due.is("on(1), which is kept yet", x.on(1), 2);
            due.is("digest() behind on(1)", x.digest(), digest);
            KissClearing y = Due.village("ppp x01h5");
            y.owe(10, 1);
            y.owe(120, 2);
            y.keep(0);
            y.undo(0);
            y.week();
            y.week();
            y.week();
            due.is("on(0), though weeks went by instead", y.on(0), 2);
            due.kisses(y, "behind on(0)", 5, 1, 2);
            due.is("undo(1)", y.undo(1), 1);
            due.kisses(y, "behind undo(1)", 5, 1);
            due.is("undo(0)", y.undo(0), 1);
            due.kisses(y, "behind undo(0)", 5);
        });
        edges.of(22, "BAD", due -> {
            KissClearing x = Due.village("pp");
            x.keep(0);
            for (int k : NO_PLACES) {
                due.refuses(x, "on(" + k + ")", () -> x.on(k), Due.BAD);
            }
        });
        edges.of(22, "NOTHING", due -> {
            KissClearing none = new KissClearing();
            KissClearing x = Due.village("pp x01h1");
            x.keep(1);
            x.week();
            for (int k = 0; k < 3; k++) {
                int place = k;
                due.finds(none, "on(" + k + ") of no persons", () -> none.on(place), Due.NOTHING);
                if (k != 1) {
                    due.finds(x, "on(" + k + ") with another one kept", () -> x.on(place), Due.NOTHING);
                }
            }
        });
    }
}
