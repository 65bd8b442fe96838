/** Promises 23 to 27, sentence by sentence: between, all, ring, net, left. */
public final class EdgesOfNettingTest {
    private static final int[] NO_RING_SORTS = {-1, 2, 3, Due.MIN, Due.MAX};
    private static final String SIX_TWICE =
            "pppppp x01h1 x12h1 x23h1 x34h1 x45h1 x50h1 x01h2 x12h2 x23h2 x34h2 x45h2 x50h2";

    public static void main(String[] args) {
        look().end();
    }

    static Edges look() {
        Edges edges = new Edges();
        between(edges);
        all(edges);
        ring(edges);
        ringRefused(edges);
        net(edges);
        left(edges);
        edges.wholly(23, 27);
        return edges;
    }

    private static void between(Edges edges) {
        edges.of(23, "KISSES of a SORT that one owes another one, all DRAFTS together", due -> {
            KissClearing x = Due.village("pppppp x05h9 x05h8 x05c7 x05t6 x05t1 x50h4 x04h3 x15h2");
            due.is("between(0, 5, 0)", x.between(0, 5, 0), 17);
            due.is("between(0, 5, 1)", x.between(0, 5, 1), 7);
            due.is("between(0, 5, 2): kisses, not what they count", x.between(0, 5, 2), 7);
            due.is("between(5, 0, 0), back", x.between(5, 0, 0), 4);
            due.is("between(5, 0, 1), none", x.between(5, 0, 1), 0);
            due.is("between(2, 3, 0), none", x.between(2, 3, 0), 0);
            x.meet(0, 5);
            due.is("between(0, 5, 0), paid", x.between(0, 5, 0), 0);
            due.is("between(0, 4, 0), not paid", x.between(0, 4, 0), 3);
        });
        edges.of(23, "BAD", due -> {
            KissClearing x = Due.village("pp x01h1");
            for (int no : new int[] {-1, 2, Due.MIN, Due.MAX}) {
                due.refuses(x, "between(" + no + ", 0, 0)", () -> x.between(no, 0, 0), Due.BAD);
                due.refuses(x, "between(0, " + no + ", 0)", () -> x.between(0, no, 0), Due.BAD);
            }
            for (int no : new int[] {-1, 3, Due.MIN, Due.MAX}) {
                due.refuses(x, "between(0, 1, " + no + ")", () -> x.between(0, 1, no), Due.BAD);
            }
            KissClearing none = new KissClearing();
            due.refuses(none, "between(0, 1, 0) of no persons", () -> none.between(0, 1, 0), Due.BAD);
        });
        edges.of(23, "BAD: also the same", due -> {
            KissClearing x = Due.village("pp x01h1");
            due.refuses(x, "between(0, 0, 0)", () -> x.between(0, 0, 0), Due.BAD);
            due.refuses(x, "between(1, 1, 2)", () -> x.between(1, 1, 2), Due.BAD);
        });
    }

    private static void all(Edges edges) {
        edges.of(24, "How many rings of DRAFTS of a SORT (0, 1) there are", due -> {
            KissClearing x = Due.village("ppp x01h1 x12h1 x20h1 x20h1 x01c1 x12c1 x20c1 x12c1 x12c1");
            due.is("all(0)", x.all(0), 2);
            due.is("all(1)", x.all(1), 3);
            due.is("all(0) of six, by two drafts each", Due.village(SIX_TWICE).all(0), 64);
        });
        edges.of(24, "(as by clear()", due -> {
            due.is("all(0) of two who owe one another", Due.village("pp x01h1 x10h1").all(0), 0);
            due.is("all(0) with a cheek", Due.village("ppp x01h1 x12h1 x20c1").all(0), 0);
            due.is("all(0) of four with two persons twice",
                    Due.village("ppp x01h1 x10h1 x02h1 x20h1").all(0), 0);
            due.is("all(0) of an eight: two rings by one person",
                    Due.village("ppppp x01h1 x12h1 x20h1 x03h1 x34h1 x40h1").all(0), 2);
            KissClearing x = Due.village("ppp x01h1 x12h1 x20h1");
            x.meet(0, 1);
            due.is("all(0) with one that is not open", x.all(0), 0);
        });
        edges.of(24, "each once, whichever DRAFT it begins with)", due -> {
            due.is("all(0) of three", Due.village("ppp x20h1 x01h1 x12h1").all(0), 1);
            due.is("all(0) of three, either way round",
                    Due.village("ppp x01h1 x12h1 x20h1 x10h1 x21h1 x02h1").all(0), 2);
            due.is("all(1) of six", Due.village("pppppp x34c1 x01c1 x50c1 x12c1 x45c1 x23c1").all(1), 1);
        });
        edges.of(24, "most that one clears (the least of it, times how many DRAFTS) by asked()", due -> {
            KissClearing x = Due.village("ppppp x01h9 x12h2 x20h3 x13h1 x34h5 x40h9 x01c1 x12c9 x20c9");
            due.tells(x, "all(0): three by 2, four by 1", x.all(0), 2, 6);
            due.tells(x, "all(1)", x.all(1), 1, 3);
            KissClearing y = Due.village("ppppp x01h9 x12h2 x20h3 x13h2 x34h5 x40h9");
            due.tells(y, "all(0): three by 2, four by 2", y.all(0), 2, 8);
            KissClearing six = Due.village(SIX_TWICE);
            due.tells(six, "all(0): six by 2", six.all(0), 64, 12);
        });
        edges.of(24, "(0: none)", due -> {
            KissClearing x = Due.village("ppp x01h5 x12h4 x20t3");
            x.person(0, 1);
            due.tells(x, "all(0)", x.all(0), 0, 0);
            x.person(0, 1);
            due.tells(x, "all(1)", x.all(1), 0, 0);
            KissClearing none = new KissClearing();
            due.tells(none, "all(0) of no persons", none.all(0), 0, 0);
            due.tells(none, "all(1) of no persons", none.all(1), 0, 0);
        });
        edges.of(24, "BAD", due -> {
            KissClearing x = Due.village("ppp x01t1 x12t1 x20t1");
            KissClearing none = new KissClearing();
            for (int sort : NO_RING_SORTS) {
                due.refuses(x, "all(" + sort + ")", () -> x.all(sort), Due.BAD);
                due.refuses(none, "all(" + sort + ") of no persons", () -> none.all(sort), Due.BAD);
            }
        });
    }

    private static void ring(Edges edges) {
        edges.of(25, "A ring of a SORT (0, 1) that clears most comes to a ROW", due -> {
            KissClearing x = Due.village("pppp x01h9 x12h2 x20h3 x13h2 x30h3 x32h2 x01c1 x12c1 x20c1");
            due.is("ring(0, 0): four by 2", x.ring(0, 0), 2);
            due.holds(x, "of hands", 0, 0, 3, 5, 2);
            due.is("ring(1, 5)", x.ring(1, 5), 1);
            due.holds(x, "of cheeks", 5, 6, 7, 8);
            due.is("clear(0)", x.clear(0), 2);
            KissClearing six = Due.village(SIX_TWICE);
            due.is("ring(0, 3) of all six", six.ring(0, 3), 2);
            due.holds(six, "of all six", 3, 6, 7, 8, 9, 10, 11);
        });
        edges.of(25, "(anew", due -> {
            KissClearing x = Due.village("ppp x01h1 x12h1 x20h1");
            x.row(0, 40);
            x.row(1, 0);
            for (int r = 0; r < 3; r++) {
                due.is("ring(0, " + r + ")", x.ring(0, r), 1);
                due.holds(x, "anew", r, 0, 1, 2);
            }
            due.is("rows", x.count(6), 3);
        });
        edges.of(25, "it begins with its least DRAFT", due -> {
            KissClearing x = Due.village("pppp x23h1 x20h1 x12h2 x01h3");
            due.is("ring(0, 0)", x.ring(0, 0), 1);
            due.holds(x, "begun with its least number, not its fewest kisses", 0, 1, 3, 2);
        });
        edges.of(25, "of alike ones the first such row)", due -> {
            KissClearing x = Due.village("ppp x20h4 x01h4 x12h4 x12h4 x20h4 x01h4");
            due.is("ring(0, 0)", x.ring(0, 0), 4);
            due.holds(x, "the first of eight", 0, 0, 1, 2);
            KissClearing y = Due.village("pppp x01h4 x13h3 x32h3 x20h9 x12h4");
            due.is("four by 3, three by 4", y.ring(0, 0), 3);
            due.holds(y, "the longer one, for its row is the first", 0, 0, 1, 2, 3);
            KissClearing z = Due.village("pppp x01h4 x12h4 x20h9 x13h3 x32h3");
            due.is("three by 4, four by 3", z.ring(0, 0), 4);
            due.holds(z, "the shorter one, for its row is the first", 0, 0, 1, 2);
            KissClearing w = Due.village("pppppp x34h2 x01h2 x12h2 x20h2 x45h2 x53h2");
            due.is("two rings apart", w.ring(0, 0), 2);
            due.holds(w, "with the least draft of all", 0, 0, 4, 5);
        });
        edges.of(25, "by how many KISSES each", due -> {
            KissClearing x = Due.village("ppp x01h9 x12h8 x20h7");
            x.person(0, 1);
            due.is("ring(0, 0)", x.ring(0, 0), 7);
            due.is("asked(), which ring() does not tell by", x.asked(), 9);
            due.kisses(x, "which stay", 9, 8, 7);
            due.is("deeds: ring() is none", x.count(2), 0);
        });
    }

    private static void ringRefused(Edges edges) {
        edges.of(25, "NONE: none", due -> {
            KissClearing x = Due.village("ppp x01h1 x12h1 x20c1");
            Due.fill(x, 0, 5, 6);
            due.refuses(x, "ring(0, 0): the row stays", () -> x.ring(0, 0), Due.NONE);
            due.refuses(x, "ring(1, 1): the row is missing yet", () -> x.ring(1, 1), Due.NONE);
            due.holds(x, "which stays", 0, 5, 6);
            KissClearing none = new KissClearing();
            due.refuses(none, "ring(0, 0) of no persons", () -> none.ring(0, 0), Due.NONE);
        });
        edges.of(25, "BAD", due -> {
            KissClearing x = Due.village("ppp x01h1 x12h1 x20h1 x01t1 x12t1 x20t1");
            for (int sort : NO_RING_SORTS) {
                due.refuses(x, "ring(" + sort + ", 0)", () -> x.ring(sort, 0), Due.BAD);
            }
            for (int r : new int[] {-1, 6, Due.MIN, Due.MAX}) {
                due.refuses(x, "ring(0, " + r + ")", () -> x.ring(0, r), Due.BAD);
                due.refuses(x, "ring(1, " + r + "): BAD is ahead of NONE", () -> x.ring(1, r), Due.BAD);
            }
        });
    }

    private static void net(Edges edges) {
        edges.of(26, "What all owe net of a SORT: for each PERSON what it owes more than it is owed, together (KISSES; those above 0)",
                due -> {
            KissClearing x = Due.village("pppp x01h5 x12h3 x20h4 x32c9 x01t9 x10t2 x02t1");
            due.is("net(0): 0 and 2 owe 1 more, 1 is owed 2 more", x.net(0), 2);
            due.is("net(1)", x.net(1), 9);
            due.is("net(2): kisses, not what they count", x.net(2), 8);
            x.meet(0, 1);
            due.is("net(0) when one is paid", x.net(0), 4);
            due.is("net(0) of what is owed round", Due.village("ppp x01h9 x12h9 x20h9").net(0), 0);
            due.is("net(1) of twelve", Due.village("pp" + " x01c9".repeat(12)).net(1), 108);
            due.is("net(0) of no drafts", Due.village("pp").net(0), 0);
            due.is("net(2) of no persons", new KissClearing().net(2), 0);
            due.is("asked(), which net() does not tell by", x.asked(), 0);
        });
        edges.of(26, "BAD", due -> {
            KissClearing x = Due.village("pp x01h1");
            for (int sort : new int[] {-1, 3, Due.MIN, Due.MAX}) {
                due.refuses(x, "net(" + sort + ")", () -> x.net(sort), Due.BAD);
            }
            due.is("net(2), which is none of these", x.net(2), 0);
        });
    }

    private static void left(Edges edges) {
        edges.of(27, "The fewest KISSES of a SORT left, if rings are cleared again and again, each time by ring()", due -> {
            KissClearing x = Due.village("ppp x01h1 x12h2 x20h3 x01h4 x12h5 x20h6 x01h7 x12h8 x20h9 x01c1 x12c1 x20c2");
            long digest = x.digest();
            due.is("left(0)", x.left(0), 45 - 3 * 12);
            due.is("left(1)", x.left(1), 1);
            due.is("digest(): nothing is cleared", x.digest(), digest);
            KissClearing y = Due.village("pppp x01h4 x12h4 x20h4 x13h4 x32h1");
            due.is("left(0): the shorter ring ahead leaves no other one", y.left(0), 17 - 12);
            KissClearing z = Due.village("pppp x01h4 x12h3 x20h4 x13h3 x32h3");
            due.is("left(0): the longer ring ahead", z.left(0), 17 - 12 - 3);
            z.meet(3, 2);
            due.is("left(0) when one is paid", z.left(0), 14 - 9);
            z.undo(0);
            due.is("left(0) when that is undone", z.left(0), 17 - 12 - 3);
            KissClearing six = Due.village("pppppp x01h3 x12h3 x23h3 x34h3 x45h3 x50h4");
            due.is("left(0) of a ring of all six", six.left(0), 1);
            due.is("left(0) of two rings of all six", Due.village(SIX_TWICE).left(0), 0);
            due.is("left(0) of no ring", Due.village("ppp x01h5 x12h4").left(0), 9);
            due.is("left(0) of none", Due.village("pp").left(0), 0);
            due.is("left(1) of no persons", new KissClearing().left(1), 0);
        });
        edges.of(27, "how many rings by asked()", due -> {
            KissClearing x = Due.village("ppp x01h1 x12h2 x20h3 x01h4 x12h5 x20h6 x01h7 x12h8 x20h9");
            due.tells(x, "left(0)", x.left(0), 9, 3);
            due.tells(x, "left(1) of no ring", x.left(1), 0, 0);
            KissClearing four = Due.village("ppp x01h1 x12h1 x20h1 x01h1 x12h1 x20h1 x01h1 x12h1 x20h1 x01h1 x12h1 x20h1");
            due.tells(four, "left(0) of four", four.left(0), 0, 4);
            KissClearing many = Due.village("ppp x01h9 x12h1 x12h2 x12h3 x20h1 x20h1 x20h1 x20h1 x20h1 x20h1");
            due.tells(many, "left(0) of six, each by one kiss", many.left(0), 9 - 6, 6);
            KissClearing six = Due.village(SIX_TWICE);
            due.tells(six, "left(0) of two rings of all six", six.left(0), 0, 2);
        });
        edges.of(27, "BAD", due -> {
            KissClearing x = Due.village("ppp x01h1 x12h1 x20h1");
            for (int sort : new int[] {-1, 3, Due.MIN, Due.MAX}) {
                due.refuses(x, "left(" + sort + ")", () -> x.left(sort), Due.BAD);
            }
        });
        edges.of(27, "BAD: also TRUE", due -> {
            KissClearing x = Due.village("ppp x01t1 x12t1 x20t1");
            due.refuses(x, "left(2)", () -> x.left(2), Due.BAD);
            KissClearing none = new KissClearing();
            due.refuses(none, "left(2) of no persons", () -> none.left(2), Due.BAD);
        });
    }
}
