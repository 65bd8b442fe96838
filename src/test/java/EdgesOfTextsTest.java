/** Promises 8 to 14, sentence by sentence: text, put, fault, village, person, draft, mark. */
public final class EdgesOfTextsTest {
    private static final int[] NO_TEXTS = {-1, 4, Due.MIN, Due.MAX};

    public static void main(String[] args) {
        look().end();
    }

    static Edges look() {
        Edges edges = new Edges();
        text(edges);
        put(edges);
        fault(edges);
        village(edges);
        villageRefused(edges);
        person(edges);
        draft(edges);
        mark(edges);
        markOfBrides(edges);
        markRefused(edges);
        edges.wholly(8, 14);
        return edges;
    }

    private static void text(Edges edges) {
        edges.of(8, "A TEXT is there with n blanks: n", due -> {
            KissClearing x = new KissClearing();
            due.is("text(0, 0)", x.text(0, 0), 0);
            due.finds(x, "put(0, 0, 65) of none", () -> x.put(0, 0, 65), Due.BEYOND);
            due.is("text(3, 80)", x.text(3, 80), 80);
            for (int i = 0; i < 80; i++) {
                due.is("put(3, " + i + ", 65)", x.put(3, i, 65), 1032);
            }
            due.is("text(3, 2), shorter", x.text(3, 2), 2);
            due.finds(x, "put(3, 2, 65)", () -> x.put(3, 2, 65), Due.BEYOND);
            due.is("text(3, 80), longer again", x.text(3, 80), 80);
            due.is("put(3, 0, 65) anew", x.put(3, 0, 65), 1032);
            due.is("put(3, 79, 65) anew", x.put(3, 79, 65), 1032);
            due.is("count(7)", x.count(7), 2);
        });
        edges.of(8, "BAD", due -> {
            KissClearing x = new KissClearing();
            for (int t : NO_TEXTS) {
                due.refuses(x, "text(" + t + ", 3)", () -> x.text(t, 3), Due.BAD);
                due.refuses(x, "text(" + t + ", -1): BAD is ahead of SIZE", () -> x.text(t, -1), Due.BAD);
            }
        });
        edges.of(8, "BAD: also n above 80", due -> {
            KissClearing x = new KissClearing();
            Due.write(x, 0, "pp");
            due.refuses(x, "text(0, 81)", () -> x.text(0, 81), Due.BAD);
            due.refuses(x, "text(0, MAX)", () -> x.text(0, Due.MAX), Due.BAD);
            due.refuses(x, "text(1, 81)", () -> x.text(1, 81), Due.BAD);
            due.is("fault(0) of the text that stays", x.fault(0), Due.NONE);
        });
        edges.of(8, "SIZE: below 0", due -> {
            KissClearing x = new KissClearing();
            Due.write(x, 0, "pp");
            due.finds(x, "text(0, -1)", () -> x.text(0, -1), Due.SIZE);
            due.finds(x, "text(0, MIN)", () -> x.text(0, Due.MIN), Due.SIZE);
            due.finds(x, "text(1, -1)", () -> x.text(1, -1), Due.SIZE);
            due.is("fault(0) of the text that stays", x.fault(0), Due.NONE);
        });
    }

    private static void put(Edges edges) {
        edges.of(9, "Byte i of a TEXT is v, cut to a byte (-128 .. 127)", due -> {
            KissClearing x = new KissClearing();
            x.text(0, 80);
            int[] given = {127, 128, 129, 255, 256, 257, -128, -129, -1, 0, 383, 384, Due.MAX, Due.MIN};
            int[] bytes = {127, -128, -127, -1, 0, 1, -128, 127, -1, 0, 127, -128, -1, 0};
            for (int n = 0; n < given.length; n++) {
                for (int i : new int[] {0, 79}) {
                    x.put(0, i, given[n]);
                    due.is("what put(0, " + i + ", " + given[n] + ") left", x.put(0, i, 32), bytes[n] + 1000);
                }
            }
            x.text(1, 2);
            x.put(1, 0, 112 + 256);
            x.put(1, 1, 112 - 512);
            due.is("village by bytes that were cut", x.village(1), 2);
        });
        edges.of(9, "what it was, and 1000 more", due -> {
            KissClearing x = new KissClearing();
            x.text(3, 2);
            x.row(0, 1);
            x.lay(0, 0, 7);
            x.at(0, 0);
            due.is("put(3, 1, -128)", x.put(3, 1, -128), 1032);
            due.is("put(3, 1, 127)", x.put(3, 1, 127), 872);
            due.is("put(3, 1, 0)", x.put(3, 1, 0), 1127);
            due.is("put(3, 1, 1)", x.put(3, 1, 1), 1000);
            due.is("put(3, 0, 1): the other one is a blank yet", x.put(3, 0, 1), 1032);
            due.is("asked(), which put() does not tell by", x.asked(), 7);
        });
        edges.of(9, "BAD", due -> {
            KissClearing x = new KissClearing();
            for (int t : NO_TEXTS) {
                due.refuses(x, "put(" + t + ", 0, 1)", () -> x.put(t, 0, 1), Due.BAD);
                due.refuses(x, "put(" + t + ", -1, 1): BAD is ahead", () -> x.put(t, -1, 1), Due.BAD);
            }
        });
        edges.of(9, "NOTHING", due -> {
            KissClearing x = new KissClearing();
            due.finds(x, "put(0, 0, 1)", () -> x.put(0, 0, 1), Due.NOTHING);
            due.finds(x, "put(3, -1, 1): NOTHING is ahead of BEYOND", () -> x.put(3, -1, 1), Due.NOTHING);
            due.finds(x, "put(3, 80, 1): NOTHING is ahead of BEYOND", () -> x.put(3, 80, 1), Due.NOTHING);
        });
        edges.of(9, "BEYOND", due -> {
            KissClearing x = new KissClearing();
            x.text(0, 2);
            x.text(1, 80);
            x.text(2, 0);
            for (int i : new int[] {-1, 2, 79, 80, Due.MIN, Due.MAX}) {
                due.finds(x, "put(0, " + i + ", 1)", () -> x.put(0, i, 1), Due.BEYOND);
            }
            due.finds(x, "put(1, 80, 1) of a full text", () -> x.put(1, 80, 1), Due.BEYOND);
            due.finds(x, "put(2, 0, 1) of an empty text", () -> x.put(2, 0, 1), Due.BEYOND);
        });
    }

    private static void fault(Edges edges) {
        edges.of(10, "A FAULT of a TEXT", due -> {
            KissClearing x = new KissClearing();
            x.text(0, 0);
            due.is("fault(0) of none", x.fault(0), 0);
            x.text(3, 80);
            due.is("fault(3) of 80 blanks", x.fault(3), 80);
            x.put(3, 79, 'q');
            due.is("fault(3) at the last place", x.fault(3), 79);
            x.put(3, 0, 'q');
            due.is("fault(3) at the first place of two", x.fault(3), 0);
            due.is("asked(), which fault() does not tell by", x.asked(), 0);
            due.is("finding(): a FAULT is none", x.finding(), 0);
        });
        edges.of(10, "NONE: there is none", due -> {
            KissClearing x = Due.village("pp x01h5");
            x.week();
            long digest = x.digest();
            due.is("fault(3)", x.fault(3), Due.NONE);
            due.is("digest(): the village stays", x.digest(), digest);
            due.is("finding()", x.finding(), 0);
        });
        edges.of(10, "BAD", due -> {
            KissClearing x = new KissClearing();
            for (int t : NO_TEXTS) {
                due.refuses(x, "fault(" + t + ")", () -> x.fault(t), Due.BAD);
            }
        });
        edges.of(10, "NOTHING", due -> {
            KissClearing x = Due.village("pp");
            for (int t = 0; t < 3; t++) {
                int text = t;
                due.finds(x, "fault(" + t + ")", () -> x.fault(text), Due.NOTHING);
            }
        });
    }

    private static void village(Edges edges) {
        edges.of(11, "A VILLAGE by a TEXT", due -> {
            KissClearing x = new KissClearing();
            Due.write(x, 0, "pasbgi x54t9");
            due.is("village(0)", x.village(0), 6);
            due.is("persons", x.count(0), 6);
            due.kisses(x, "by the text", 9);
            x.put(0, 11, '1');
            due.kisses(x, "when the text is changed behind it", 9);
            x.text(0, 0);
            due.is("persons when the text is changed", x.count(0), 6);
        });
        edges.of(11, "(anew: no DEEDS", due -> {
            KissClearing x = Due.full(Due.village("pp x01h5 x10h9"), 0, 1);
            due.is("deeds", x.count(2), 40);
            x.village(3);
            due.is("deeds anew", x.count(2), 0);
            due.kisses(x, "anew", 5, 9);
            due.refuses(x, "undo(1)", () -> x.undo(1), Due.BAD);
            due.is("undo(0)", x.undo(0), 0);
            due.kisses(x, "behind undo(0)", 5, 9);
            due.is("week(), which was full ahead", x.week(), 0);
        });
        edges.of(11, "kept VILLAGES go)", due -> {
            KissClearing x = Due.village("pp x01h5");
            for (int k = 0; k < 3; k++) {
                x.keep(k);
            }
            x.village(3);
            due.is("kept ones", x.count(8), 0);
            for (int k = 0; k < 3; k++) {
                int place = k;
                due.finds(x, "on(" + k + ")", () -> x.on(place), Due.NOTHING);
            }
        });
        edges.of(11, "how many PERSONS", due -> {
            KissClearing x = new KissClearing();
            for (int n = 2; n <= 6; n++) {
                Due.write(x, 0, "gibsap".substring(0, n));
                due.is("village of " + n, x.village(0), n);
            }
            Due.write(x, 3, "  a  s ");
            due.is("fewer than ahead", x.village(3), 2);
            due.refuses(x, "person(2, 0)", () -> x.person(2, 0), Due.BAD);
        });
    }

    private static void villageRefused(Edges edges) {
        edges.of(11, "BAD", due -> {
            KissClearing x = Due.village("pp");
            for (int t : NO_TEXTS) {
                due.refuses(x, "village(" + t + ")", () -> x.village(t), Due.BAD);
            }
        });
        edges.of(11, "NOTHING", due -> {
            KissClearing x = Due.village("pp x01h5");
            x.week();
            for (int t = 0; t < 3; t++) {
                int text = t;
                due.finds(x, "village(" + t + ")", () -> x.village(text), Due.NOTHING);
            }
        });
        edges.of(11, "STATE: a FAULT", due -> {
            KissClearing x = Due.village("pp x01h5");
            x.week();
            x.keep(2);
            for (String text : new String[] {"", "p", "gggggg x01h", "gggx01h1g", "pp x00h1", "ppppppp"}) {
                Due.write(x, 0, text);
                due.refuses(x, "village of '" + text + "'", () -> x.village(0), Due.STATE);
            }
            due.is("undo(0): the deeds stay", x.undo(0), 1);
            due.is("on(2): kept ones stay", x.on(2), 1);
            due.kisses(x, "behind refused ones", 5);
            due.tells(x, "kind of 0", x.person(0, 0), 1, 0);
        });
        edges.of(11, "(STATE behind NOTHING.)", due -> {
            KissClearing x = new KissClearing();
            due.finds(x, "village(0), missing", () -> x.village(0), Due.NOTHING);
            x.text(0, 0);
            due.refuses(x, "village(0), empty", () -> x.village(0), Due.STATE);
        });
    }

    private static void person(Edges edges) {
        edges.of(12, "Of a PERSON: 0 the KIND", due -> {
            KissClearing x = Due.village("pasbgi");
            for (int p = 0; p < 6; p++) {
                due.tells(x, "person(" + p + ", 0)", x.person(p, 0), 1, p);
            }
        });
        edges.of(12, "1 OWING", due -> {
            KissClearing x = Due.village("pppppp x01h9 x02c9 x03t9 x10h1");
            due.tells(x, "person(0, 1)", x.person(0, 1), 1, 9 + 18 + 27);
            due.tells(x, "person(5, 1) of none", x.person(5, 1), 1, 0);
            x.meet(0, 3);
            due.tells(x, "person(0, 1) when one is paid", x.person(0, 1), 1, 9 + 18);
        });
        edges.of(12, "2 OWED", due -> {
            KissClearing x = Due.village("pppppp x10h9 x20c9 x30t9 x01h1");
            due.tells(x, "person(0, 2)", x.person(0, 2), 1, 9 + 18 + 27);
            due.tells(x, "person(5, 2) of none", x.person(5, 2), 1, 0);
            x.meet(0, 3);
            due.tells(x, "person(0, 2) when one is paid", x.person(0, 2), 1, 9 + 18);
        });
        edges.of(12, "3 the RESERVE", due -> {
            KissClearing x = Due.village("pasbgi x01h9");
            int[] reserves = {1, 1, 0, 6, 1, 12};
            for (int p = 0; p < 6; p++) {
                due.tells(x, "person(" + p + ", 3)", x.person(p, 3), 1, reserves[p]);
            }
        });
        edges.of(12, "4 to how many others it owes, all told by asked(): 1", due -> {
            KissClearing x = Due.village("pppppp x01h1 x01c1 x02h1 x03t1 x04c1 x05h1 x10h1");
            due.tells(x, "person(0, 4) of all others", x.person(0, 4), 1, 5);
            due.tells(x, "person(1, 4)", x.person(1, 4), 1, 1);
            due.tells(x, "person(2, 4) of none", x.person(2, 4), 1, 0);
            x.meet(0, 1);
            due.tells(x, "person(0, 4) when one is paid", x.person(0, 4), 1, 4);
            due.tells(x, "person(1, 4) when one is paid", x.person(1, 4), 1, 0);
            x.endorse(2, 3);
            due.tells(x, "person(0, 4) when two are owed to one", x.person(0, 4), 1, 3);
        });
        edges.of(12, "BAD", due -> {
            KissClearing x = Due.village("pp x01h1");
            for (int p : new int[] {-1, 2, 6, Due.MIN, Due.MAX}) {
                due.refuses(x, "person(" + p + ", 0)", () -> x.person(p, 0), Due.BAD);
            }
            for (int what : new int[] {-1, 5, Due.MIN, Due.MAX}) {
                due.refuses(x, "person(0, " + what + ")", () -> x.person(0, what), Due.BAD);
            }
            KissClearing none = new KissClearing();
            due.refuses(none, "person(0, 0) of no persons", () -> none.person(0, 0), Due.BAD);
        });
    }

    private static void told(Due due, KissClearing x, int i, int... wants) {
        for (int what = 0; what < wants.length; what++) {
            due.tells(x, "draft(" + i + ", " + what + ")", x.draft(i, what), 1, wants[what]);
        }
    }

    private static void draft(Edges edges) {
        edges.of(13, "Of a DRAFT: 0 WHO, 1 TO WHOM, 2 the SORT, 3 KISSES", due -> {
            KissClearing x = Due.village("pppppp x05h1 x50t9 x34c5 x01h1 x01h1 x01h1 x01h1 x01h1 x01h1 x01h1 x01h1 x45t2");
            told(due, x, 0, 0, 5, 0, 1, 0, 0);
            told(due, x, 1, 5, 0, 2, 9, 0, 0);
            told(due, x, 2, 3, 4, 1, 5, 0, 0);
            told(due, x, 11, 4, 5, 2, 2, 0, 0);
            x.meet(5, 4);
            told(due, x, 11, 4, 5, 2, 0, 0, 0);
        });
        edges.of(13, "4 how many WEEKS old it is", due -> {
            KissClearing x = Due.village("pp x01t1 x01h1");
            for (int i = 0; i < 40; i++) {
                due.tells(x, "weeks of a true one", x.draft(0, 4), 1, i);
                due.tells(x, "weeks of a hand, none behind the fourth", x.draft(1, 4), 1, Math.min(i, 4));
                x.week();
            }
            due.tells(x, "weeks behind 40", x.draft(0, 4), 1, 40);
        });
        edges.of(13, "5 how often it was ENDORSED, all told by asked(): 1", due -> {
            KissClearing x = Due.village("pppp x01h1");
            due.tells(x, "draft(0, 5)", x.draft(0, 5), 1, 0);
            x.endorse(0, 2);
            due.tells(x, "draft(0, 5)", x.draft(0, 5), 1, 1);
            x.endorse(0, 3);
            due.tells(x, "draft(0, 5)", x.draft(0, 5), 1, 2);
            x.endorse(0, 1);
            due.tells(x, "draft(0, 5) behind a refused one", x.draft(0, 5), 1, 2);
            x.village(3);
            due.tells(x, "draft(0, 5) of a new village", x.draft(0, 5), 1, 0);
            x.owe(10, 1);
            x.endorse(1, 2);
            x.undo(0);
            x.owe(10, 1);
            due.tells(x, "draft(1, 5) of one that came behind undo()", x.draft(1, 5), 1, 0);
        });
        edges.of(13, "BAD", due -> {
            KissClearing x = Due.village("pp x01h1");
            for (int i : new int[] {-1, 1, 12, Due.MIN, Due.MAX}) {
                due.refuses(x, "draft(" + i + ", 0)", () -> x.draft(i, 0), Due.BAD);
            }
            for (int what : new int[] {-1, 6, Due.MIN, Due.MAX}) {
                due.refuses(x, "draft(0, " + what + ")", () -> x.draft(0, what), Due.BAD);
            }
            x.owe(10, 1);
            x.undo(0);
            due.refuses(x, "draft(1, 0) that came and went", () -> x.draft(1, 0), Due.BAD);
        });
    }

    private static void mark(Edges edges) {
        edges.of(14, "What a PERSON that IS of a KIND tells: an AUNT (GRANDAUNT, too) by how many KISSES DRAFTS on others grow in a WEEK",
                due -> {
            KissClearing x = Due.village("agp x20h9 x21h9 x20t1 x21c1 x01h1 x02h9");
            due.is("mark(0, 1) of an aunt", x.mark(0, 1), 2);
            due.is("mark(1, 1) of a grandaunt", x.mark(1, 1), 2 * 3);
            due.is("asked(), which mark() does not tell by", x.asked(), 0);
            x.meet(0, 2);
            due.is("mark(0, 1) of an aunt to whom nothing is owed", x.mark(0, 1), 0);
            for (int i = 0; i < 3; i++) {
                x.week();
            }
            due.is("mark(1, 1), though all goes sour then", x.mark(1, 1), 2 * 3);
            x.week();
            due.is("mark(1, 1) behind that", x.mark(1, 1), 0);
            KissClearing twelve = Due.village("pg" + " x01h1".repeat(12));
            due.is("mark(1, 1) of twelve", twelve.mark(1, 1), 24);
        });
        edges.of(14, "(99 at most aside)", due -> {
            KissClearing x = Due.village("ag x01t9 x10t9");
            for (int i = 0; i < 40; i++) {
                x.week();
            }
            due.kisses(x, "behind 40 weeks", 89, 49);
            due.is("mark(1, 1) at 89 kisses", x.mark(1, 1), 2);
            due.is("mark(0, 1) at 49 kisses", x.mark(0, 1), 1);
        });
        edges.of(14, "a SAILOR how many OPEN DRAFTS are on it", due -> {
            KissClearing x = Due.village("spp x01h1 x02c1 x01t1 x10h1 x20h1");
            due.is("mark(0, 2)", x.mark(0, 2), 3);
            x.meet(0, 1);
            due.is("mark(0, 2) when one is netted", x.mark(0, 2), 2);
            x.undo(0);
            Due.write(x, 0, "sp x10h1 x10c1");
            x.village(0);
            due.is("mark(0, 2) of none", x.mark(0, 2), 0);
        });
    }

    private static void markOfBrides(Edges edges) {
        edges.of(14, "a BRIDE (BISHOP, too) its OWED and RESERVE less its OWING (0 at least)", due -> {
            KissClearing x = Due.village("bip x20h1 x02c3 x12t4 x21h1");
            due.is("mark(0, 3)", x.mark(0, 3), 1 + 6 - 6);
            due.is("mark(1, 3)", x.mark(1, 3), 1 + 12 - 12);
            x.owe(20, 1);
            x.owe(120, 1);
            due.is("mark(0, 3), just 0", x.mark(0, 3), 0);
            due.is("mark(1, 3), just 0", x.mark(1, 3), 0);
            x.owe(20, 1);
            x.owe(120, 1);
            due.is("mark(0, 3), 0 at least", x.mark(0, 3), 0);
            due.is("mark(1, 3), 0 at least", x.mark(1, 3), 0);
            KissClearing y = Due.village("pb x01t9");
            due.is("mark(1, 3), owed by the first one", y.mark(1, 3), 27 + 6);
        });
        edges.of(14, "a GRANDAUNT how many OPEN DRAFTS that it is owed go sour in the next WEEK", due -> {
            KissClearing x = Due.village("gp x10h1 x10c1 x10t1 x01h1");
            for (int i = 0; i < 3; i++) {
                due.is("mark(0, 4) behind " + i + " weeks", x.mark(0, 4), 0);
                x.week();
            }
            due.is("mark(0, 4) behind 3 weeks, not the true one", x.mark(0, 4), 2);
            x.owe(100, 1);
            due.is("mark(0, 4), not a new one", x.mark(0, 4), 2);
            x.week();
            due.is("mark(0, 4) behind 4 weeks", x.mark(0, 4), 0);
            KissClearing twelve = Due.village("pg" + " x01h1".repeat(12));
            for (int i = 0; i < 3; i++) {
                twelve.week();
            }
            due.is("mark(1, 4) of twelve", twelve.mark(1, 4), 12);
        });
        edges.of(14, "a BISHOP in how many rings (of HANDS, of CHEEKS; as by all()) it is", due -> {
            KissClearing x = Due.village("ippi x01h1 x12h1 x20h1 x20h1 x01c1 x12c1 x20c1 x01t1 x12t1 x20t1 x03h1 x30h1");
            due.is("mark(0, 5) of two rings of hands, one of cheeks", x.mark(0, 5), 3);
            due.is("mark(3, 5) of a ring of two, which is none", x.mark(3, 5), 0);
            Due.write(x, 0, "pppi x01h1 x12h1 x20h1");
            x.village(0);
            due.is("mark(3, 5) beside a ring", x.mark(3, 5), 0);
        });
    }

    private static void markRefused(Edges edges) {
        edges.of(14, "BAD", due -> {
            KissClearing x = Due.village("gi");
            for (int p : new int[] {-1, 2, Due.MIN, Due.MAX}) {
                due.refuses(x, "mark(" + p + ", 1)", () -> x.mark(p, 1), Due.BAD);
            }
            for (int kind : new int[] {-1, 6, Due.MIN, Due.MAX}) {
                due.refuses(x, "mark(0, " + kind + ")", () -> x.mark(0, kind), Due.BAD);
            }
            KissClearing none = new KissClearing();
            due.refuses(none, "mark(0, 1) of no persons", () -> none.mark(0, 1), Due.BAD);
        });
        edges.of(14, "BAD: also KIND 0", due -> {
            KissClearing x = Due.village("pasbgi");
            for (int p = 0; p < 6; p++) {
                int person = p;
                due.refuses(x, "mark(" + p + ", 0)", () -> x.mark(person, 0), Due.BAD);
            }
        });
        edges.of(14, "UNLIKE", due -> {
            KissClearing x = Due.village("pasbgi");
            String[] like = {"", "1", "2", "3", "14", "35"};
            for (int p = 0; p < 6; p++) {
                for (int kind = 1; kind <= 5; kind++) {
                    int person = p;
                    int wanted = kind;
                    String call = "mark(" + p + ", " + kind + ")";
                    if (like[p].indexOf('0' + kind) >= 0) {
                        due.is(call + " is not refused", x.mark(p, kind) >= 0 ? 1 : 0, 1);
                    } else {
                        due.finds(x, call, () -> x.mark(person, wanted), Due.UNLIKE);
                    }
                }
            }
        });
    }
}
