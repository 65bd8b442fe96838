/** Promises 28 to 33, sentence by sentence: falls, worst, saved, pairs, rounds, mistletoe. */
public final class EdgesOfFallsTest {
    private static final int[] NOBODY_OF_TWO = {-1, 2, 6, Due.MIN, Due.MAX};

    public static void main(String[] args) {
        look().end();
    }

    static Edges look() {
        Edges edges = new Edges();
        falls(edges);
        worst(edges);
        saved(edges);
        pairs(edges);
        rounds(edges);
        mistletoe(edges);
        edges.wholly(28, 33);
        return edges;
    }

    private static void falls(Edges edges) {
        edges.of(28, "PERSONS (bits) who FALL, if one BOUNCES", due -> {
            KissClearing x = Due.village("pppppp x54h1 x43h2 x32h3 x21h4 x10h5");
            due.is("falls(5): one after another, against their numbers", x.falls(5), 2 + 4 + 8 + 16);
            due.is("falls(0): nobody hangs on it", x.falls(0), 0);
            due.is("falls(1)", x.falls(1), 0);
            due.is("falls(2)", x.falls(2), 2);
            KissClearing y = Due.village("pppppp x01h1 x12h2 x23h3 x34h4 x45h5");
            due.is("falls(0): one after another, by their numbers", y.falls(0), 2 + 4 + 8 + 16);
            KissClearing z = Due.village("pppppp x01h2 x12h9 x23h9 x34h9 x45h9 x50h1");
            due.is("falls(5), all others", z.falls(5), 1 + 2 + 4 + 8 + 16);
            due.is("falls(0) of no drafts", Due.village("pp").falls(0), 0);
        });
        edges.of(28, "(that one aside)", due -> {
            KissClearing x = Due.village("pp x01t9");
            due.is("falls(0), which owes more than it has", x.falls(0), 0);
            due.is("falls(1)", x.falls(1), 1);
            KissClearing y = Due.village("pp x01t9 x10t9");
            due.is("falls(0) of two on one another", y.falls(0), 2);
            due.is("falls(1) of two on one another", y.falls(1), 1);
        });
        edges.of(28, "BAD", due -> {
            KissClearing x = Due.village("pp x01h9");
            for (int p : NOBODY_OF_TWO) {
                due.refuses(x, "falls(" + p + ")", () -> x.falls(p), Due.BAD);
            }
            KissClearing none = new KissClearing();
            due.refuses(none, "falls(0) of no persons", () -> none.falls(0), Due.BAD);
        });
    }

    private static void worst(Edges edges) {
        edges.of(29, "The PERSON by whom, BOUNCING, most FALL", due -> {
            KissClearing x = Due.village("ppp x12h1 x20h2 x01h1");
            due.is("worst(), by whom one falls", x.worst(), 1);
            KissClearing y = Due.village("pppppp x54h1 x43h2 x32h3 x21h4 x10h5");
            due.is("worst(), the last one", y.worst(), 5);
            KissClearing z = Due.village("pp x01t9 x10h1");
            due.is("worst(), by whom the other one falls", z.worst(), 1);
        });
        edges.of(29, "(the first)", due -> {
            due.is("worst(), by whom nobody falls", Due.village("pppp").worst(), 0);
            KissClearing x = Due.village("pppp x12h2 x20h2 x03h1");
            due.is("falls(0)", x.falls(0), 2 + 4);
            due.is("falls(3)", x.falls(3), 2 + 4);
            due.is("worst() of 0 and 3", x.worst(), 0);
            KissClearing y = Due.village("ppp x01h2");
            due.is("worst() of 1 and 2", y.worst(), 1);
        });
        edges.of(29, "how many by asked()", due -> {
            KissClearing x = Due.village("pppppp x54h1 x43h2 x32h3 x21h4 x10h5");
            due.tells(x, "worst()", x.worst(), 5, 4);
            KissClearing y = Due.village("pp x01h1");
            y.person(0, 1);
            due.tells(y, "worst(), by whom nobody falls", y.worst(), 0, 0);
            KissClearing z = Due.village("pppppp x01h2 x12h9 x23h9 x34h9 x45h9 x50h1");
            due.is("worst(), by whom all others fall", z.worst(), 5);
            due.is("all others", z.asked(), 5);
            // All fall here whoever bounces, but the one who bounces is not counted with those who fall.
            KissClearing all = Due.village("ppp x01h9 x12h4 x20h3");
            due.tells(all, "worst(), where all fall by themselves", all.worst(), 0, 2);
        });
        edges.of(29, "STATE: no PERSONS", due -> {
            KissClearing none = new KissClearing();
            due.refuses(none, "worst()", none::worst, Due.STATE);
        });
    }

    private static void saved(Edges edges) {
        edges.of(30, "The least that a PERSON would have to have more of RESERVE so that it does not FALL, if another one BOUNCES",
                due -> {
            KissClearing x = Due.village("pppp x01h9 x12h9 x23h9");
            due.is("saved(1, 0)", x.saved(1, 0), 8);
            due.is("saved(2, 0), for 1 falls, too", x.saved(2, 0), 8);
            due.is("saved(0, 3), which falls by itself", x.saved(0, 3), 8);
            KissClearing y = Due.village("sb x01h1 x10h7");
            due.is("saved(0, 1) by 1", y.saved(0, 1), 1);
            due.is("saved(1, 0) by 1", y.saved(1, 0), 1);
            KissClearing z = Due.village("sssp x01h5 x12h5 x20h5 x23t2 x30c3");
            due.is("saved(2, 3): by it all stand that hang on it", z.saved(2, 3), 6);
        });
        edges.of(30, "(all others as they are", due -> {
            KissClearing x = Due.village("ppp x01h5 x12h5");
            due.is("saved(2, 0) needs nothing", x.saved(2, 0), 0);
            due.is("saved(1, 0)", x.saved(1, 0), 4);
            KissClearing y = Due.village("ppps x30h5 x01h5 x12h5 x23h5");
            due.is("saved(2, 3): 0 and 1 fall yet", y.saved(2, 3), 4);
            due.is("saved(0, 3)", y.saved(0, 3), 4);
        });
        edges.of(30, "0: it does not)", due -> {
            KissClearing x = Due.village("pppp x01h1 x12h1 x23h2");
            due.is("saved(1, 0): just enough", x.saved(1, 0), 0);
            due.is("saved(3, 2): it owes nothing", x.saved(3, 2), 0);
            due.is("saved(2, 0): 1 stands", x.saved(2, 0), 0);
            due.is("saved(2, 1): it falls by 1", x.saved(2, 1), 1);
            KissClearing y = Due.village("pp x01h1 x10h9");
            due.is("saved(0, 1): not below 0", y.saved(0, 1), 0);
            Due.write(y, 0, "ip x01h1");
            y.village(0);
            due.is("saved(0, 1): not below 0 by 11", y.saved(0, 1), 0);
        });
        edges.of(30, "NONE: by 200 it does yet", due -> {
            KissClearing x = Due.village("ss x01t9 x01t9 x01t9 x01t9 x01t9 x01t9 x01t9 x01h9 x01h1");
            due.is("saved(0, 1) of 199", x.saved(0, 1), 199);
            x.owe(10, 1);
            due.is("saved(0, 1) of 200", x.saved(0, 1), 200);
            x.owe(10, 1);
            due.refuses(x, "saved(0, 1) of 201", () -> x.saved(0, 1), Due.NONE);
            x.owe(12, 9);
            due.refuses(x, "saved(0, 1) of 228", () -> x.saved(0, 1), Due.NONE);
        });
        edges.of(30, "BAD", due -> {
            KissClearing x = Due.village("pp x01h9");
            for (int p : NOBODY_OF_TWO) {
                due.refuses(x, "saved(" + p + ", 0)", () -> x.saved(p, 0), Due.BAD);
                due.refuses(x, "saved(0, " + p + ")", () -> x.saved(0, p), Due.BAD);
            }
            KissClearing none = new KissClearing();
            due.refuses(none, "saved(0, 1) of no persons", () -> none.saved(0, 1), Due.BAD);
        });
        edges.of(30, "BAD: also the same", due -> {
            KissClearing x = Due.village("pp x01h9");
            due.refuses(x, "saved(0, 0)", () -> x.saved(0, 0), Due.BAD);
            due.refuses(x, "saved(1, 1)", () -> x.saved(1, 1), Due.BAD);
        });
    }

    private static void pairs(Edges edges) {
        edges.of(31, "How many pairs of PERSONS there are between whom there are OPEN DRAFTS, either way", due -> {
            KissClearing x = Due.village("pppppp x01h1 x10h1 x01t1 x50c1 x45h1 x54t1");
            due.is("pairs()", x.pairs(), 3);
            x.meet(0, 1);
            due.is("pairs() when one met", x.pairs(), 2);
            x.meet(0, 5);
            x.meet(4, 5);
            due.is("pairs() when all met", x.pairs(), 0);
            due.is("pairs() of twelve",
                    Due.village("pppppp x01h1 x02h1 x03h1 x04h1 x05h1 x12h1 x13h1 x14h1 x15h1 x23h1 x24h1 x54h1").pairs(), 12);
            due.is("pairs() of no drafts", Due.village("pp").pairs(), 0);
            due.is("pairs() of no persons", new KissClearing().pairs(), 0);
        });
        edges.of(31, "how many KISSES are given, if each of these meets now, by asked()", due -> {
            KissClearing x = Due.village("pps x01h5 x10h3 x01t1 x10c2 x02c4 x20c6 x20t9");
            long digest = x.digest();
            due.tells(x, "pairs(): netted ones aside, and what a sailor owes", x.pairs(), 2, 2 + 1 + 2);
            due.is("digest(): nobody meets", x.digest(), digest);
            due.tells(x, "pairs() again", x.pairs(), 2, 2 + 1 + 2);
            x.owe(120, 7);
            due.tells(x, "pairs() with one more", x.pairs(), 3, 2 + 1 + 2 + 7);
            x.undo(0);
            x.meet(0, 1);
            x.meet(0, 2);
            due.tells(x, "pairs(), a sailor owes yet", x.pairs(), 1, 0);
            KissClearing none = new KissClearing();
            Due.fill(none, 0, 7);
            none.at(0, 0);
            due.tells(none, "pairs() of no persons", none.pairs(), 0, 0);
            KissClearing y = Due.full(Due.village("ppp x01h5"), 1, 2);
            due.tells(y, "pairs(), though 40 deeds are done", y.pairs(), 1, 5);
        });
    }

    private static void rounds(Edges edges) {
        edges.of(32, "The fewest rounds in which all these pairs can meet", due -> {
            due.is("rounds() of no persons", new KissClearing().rounds(), 0);
            due.is("rounds() of no drafts", Due.village("pp").rounds(), 0);
            due.is("rounds() of one pair", Due.village("pp x01h1 x10h1 x01t1").rounds(), 1);
            due.is("rounds() of three pairs apart", Due.village("pppppp x01h1 x23h1 x45h1").rounds(), 1);
            KissClearing six = Due.village("pppppp x01h1 x12h1 x23h1 x34h1 x45h1 x50h1");
            due.is("rounds() of six in a ring", six.rounds(), 2);
            due.is("rounds() of six in a ring again", six.rounds(), 2);
            due.is("rounds() of each with three others",
                    Due.village("pppppp x03h1 x04h1 x05h1 x13h1 x14h1 x15h1 x23h1 x24h1 x25h1").rounds(), 3);
            KissClearing x = Due.village("ppp x01h1 x12h1 x20h1");
            x.person(0, 1);
            due.is("rounds() of three", x.rounds(), 3);
            due.is("rounds() of three again", x.rounds(), 3);
            x.meet(0, 1);
            due.is("rounds() when one pair met", x.rounds(), 2);
            due.is("asked(), which rounds() does not tell by", x.asked(), 0);
        });
        edges.of(32, "each PERSON with one at most in a round", due -> {
            due.is("rounds() of a star of two", Due.village("ppp x01h1 x02h1").rounds(), 2);
            due.is("rounds() of a star of five", Due.village("pppppp x01h1 x02h1 x03h1 x40h1 x50h1").rounds(), 5);
            due.is("rounds() of three in a ring", Due.village("ppp x01h1 x12h1 x20h1").rounds(), 3);
            due.is("rounds() of five in a ring", Due.village("ppppp x01h1 x12h1 x23h1 x34h1 x40h1").rounds(), 3);
            due.is("rounds() of all of four", Due.village("pppp x01h1 x02h1 x03h1 x12h1 x13h1 x23h1").rounds(), 3);
            due.is("rounds() of all of five",
                    Due.village("ppppp x01h1 x02h1 x03h1 x04h1 x12h1 x13h1 x14h1 x23h1 x24h1 x34h1").rounds(), 5);
            due.is("rounds() of twelve pairs of six, each in four",
                    Due.village("pppppp x01h1 x02h1 x04h1 x05h1 x12h1 x13h1 x15h1 x23h1 x24h1 x34h1 x35h1 x45h1").rounds(), 4);
        });
    }

    private static void mistletoe(Edges edges) {
        edges.of(33, "Mistletoe: the PERSON all OPEN DRAFTS of whom (WHO, TO WHOM) would be halved, cut, so that most KISSES are cleared",
                due -> {
            KissClearing x = Due.village("pppp x01h9 x23h2 x32t2 x13c1");
            due.tells(x, "mistletoe(): 9 is cut to 4", x.mistletoe(), 1, 5 + 1);
            due.kisses(x, "which stay", 9, 2, 2, 1);
            KissClearing y = Due.village("ppp x01h1 x21h1 x12h1 x20h4");
            due.tells(y, "mistletoe(): 1 is cut to 0", y.mistletoe(), 2, 1 + 1 + 2);
            KissClearing z = Due.village("ppp x02t9 x12h2 x12h2 x12h2");
            due.tells(z, "mistletoe(): kisses, not what they count", z.mistletoe(), 2, 5 + 3);
            z.meet(0, 2);
            due.tells(z, "mistletoe() when one is paid", z.mistletoe(), 1, 3);
        });
        edges.of(33, "(the first)", due -> {
            due.is("mistletoe() of 2 and 3", Due.village("pppp x23h2 x32h9").mistletoe(), 2);
            due.is("mistletoe() of 0, 1, 2", Due.village("ppp x21h2 x10h2 x02h2").mistletoe(), 0);
            due.is("mistletoe() of no drafts", Due.village("ppp").mistletoe(), 0);
        });
        edges.of(33, "how many by asked()", due -> {
            KissClearing x = Due.village("pp");
            Due.fill(x, 0, 7);
            x.at(0, 0);
            due.tells(x, "mistletoe() of no drafts", x.mistletoe(), 0, 0);
            KissClearing y = Due.village("pp x01h9 x10h9 x01h9 x10h9 x01h9 x10h9 x01h9 x10h9 x01h9 x10h9 x01h9 x10h9");
            due.tells(y, "mistletoe() of twelve by 9", y.mistletoe(), 0, 12 * 5);
        });
        edges.of(33, "STATE: no PERSONS", due -> {
            KissClearing none = new KissClearing();
            due.refuses(none, "mistletoe()", none::mistletoe, Due.STATE);
        });
    }
}
