import java.util.function.Consumer;

/** Promises 40 to 46, sentence by sentence: asked, upper, lower, count, finding, findings, digest. */
public final class EdgesOfToldTest {
    public static void main(String[] args) {
        look().end();
    }

    static Edges look() {
        Edges edges = new Edges();
        asked(edges);
        askedOfRefused(edges);
        chances(edges);
        count(edges);
        countOfDrafts(edges);
        findings(edges);
        digest(edges);
        digestOfParts(edges);
        edges.wholly(40, 46);
        return edges;
    }

    /** A village of which each call that tells by asked() tells another number than 99. */
    private static KissClearing told() {
        KissClearing x = Due.village("abs x01h5 x12h4 x20h4 x20t1 x10h2");
        Due.fill(x, 0, 99, 11, 40);
        Due.fill(x, 1, 4, 0, 4);
        x.at(0, 0);
        return x;
    }

    private static void tells(Due due, String call, Consumer<KissClearing> made, int want) {
        KissClearing x = told();
        due.is("asked() ahead of " + call, x.asked(), 99);
        made.accept(x);
        due.is("asked() behind " + call, x.asked(), want);
    }

    private static void asked(Edges edges) {
        edges.of(40, "What the latest lay(), at(), mean(), person(), draft(), meet(), all(), left(), worst(), pairs(), "
                + "mistletoe(), blushes()", due -> {
            tells(due, "lay(0, 1, 5)", x -> x.lay(0, 1, 5), 11);
            tells(due, "at(0, 2)", x -> x.at(0, 2), 40);
            tells(due, "mean(0)", x -> x.mean(0), 50);
            tells(due, "person(1, 3)", x -> x.person(1, 3), 6);
            tells(due, "draft(0, 3)", x -> x.draft(0, 3), 5);
            tells(due, "meet(0, 1)", x -> x.meet(0, 1), 2);
            tells(due, "meet(1, 2)", x -> x.meet(1, 2), 0);
            tells(due, "all(0)", x -> x.all(0), 12);
            tells(due, "left(0)", x -> x.left(0), 1);
            tells(due, "worst()", KissClearing::worst, 2);
            tells(due, "pairs()", KissClearing::pairs, 3 + 4);
            tells(due, "mistletoe()", KissClearing::mistletoe, 3 + 2 + 1 + 1);
            tells(due, "blushes(1)", x -> x.blushes(1), 4);
        });
        edges.of(40, "told; 0 before", due -> {
            KissClearing x = new KissClearing();
            due.is("asked() of a new one", x.asked(), 0);
            x.row(0, 3);
            x.text(0, 3);
            x.put(0, 0, 'p');
            x.put(0, 1, 'p');
            x.fault(0);
            x.village(0);
            x.owe(10, 5);
            x.week();
            x.keep(0);
            x.on(0);
            x.falls(0);
            x.odds();
            x.digest();
            due.is("asked() behind calls that do not tell by it", x.asked(), 0);
            KissClearing y = told();
            y.row(2, 2);
            y.tear(2);
            y.copy(0, 0, 1, 0, 1);
            y.text(2, 3);
            y.put(2, 1, 3);
            y.fault(3);
            y.mark(0, 1);
            y.owe(10, 2);
            y.endorse(5, 2);
            y.week();
            y.keep(0);
            y.on(0);
            y.between(0, 1, 0);
            y.ring(0, 2);
            y.clear(2);
            y.undo(0);
            y.net(0);
            y.falls(0);
            y.saved(0, 1);
            y.rounds();
            y.gain(1);
            y.trust(0, 1);
            y.sure(1);
            y.odds();
            y.lots(3, 1);
            y.count(0);
            y.finding();
            y.findings(1);
            y.upper();
            y.lower();
            y.digest();
            y.village(3);
            due.is("asked() behind all calls that do not tell by it", y.asked(), 99);
        });
    }

    private static void askedOfRefused(Edges edges) {
        edges.of(40, "that was not refused", due -> {
            KissClearing full = told();
            Due.full(full, 0, 1);
            full.at(0, 0);
            full.meet(0, 1);
            due.is("asked() behind meet(), FULL", full.asked(), 99);
            tells(due, "lay(0, 3, 5), BEYOND", x -> x.lay(0, 3, 5), 99);
            tells(due, "lay(2, 0, 5), NOTHING", x -> x.lay(2, 0, 5), 99);
            tells(due, "at(0, 3), BEYOND", x -> x.at(0, 3), 99);
            tells(due, "mean(2), NOTHING", x -> x.mean(2), 99);
            tells(due, "mean(6), BAD", x -> x.mean(6), 99);
            tells(due, "person(3, 0), BAD", x -> x.person(3, 0), 99);
            tells(due, "draft(5, 0), BAD", x -> x.draft(5, 0), 99);
            tells(due, "meet(1, 1), BAD", x -> x.meet(1, 1), 99);
            tells(due, "all(2), BAD", x -> x.all(2), 99);
            tells(due, "left(2), BAD", x -> x.left(2), 99);
            tells(due, "blushes(2), NOTHING", x -> x.blushes(2), 99);
            KissClearing none = new KissClearing();
            Due.fill(none, 0, 99);
            none.at(0, 0);
            none.worst();
            none.mistletoe();
            none.blushes(0);
            due.is("asked() behind worst(), mistletoe(), blushes() of no persons", none.asked(), 99);
        });
        edges.of(40, "(nor NONE, but as told)", due -> {
            tells(due, "ring(1, 2), NONE", x -> x.ring(1, 2), 99);
            tells(due, "blushes(0) of no set, whose first one is NONE", x -> x.blushes(0), Due.NONE);
        });
    }

    private static void chances(Edges edges) {
        edges.of(41, "The upper number of the chances that were told last", due -> {
            KissClearing x = Due.village("ppp x01h2");
            x.odds();
            due.is("upper()", x.upper(), 1);
            due.is("lower()", x.lower(), 3);
            x.endorse(0, 2);
            x.meet(0, 1);
            due.is("upper(), till odds() tells anew", x.upper(), 1);
            Due.write(x, 0, "pp x01h9 x10h9");
            x.village(0);
            due.is("upper() behind village()", x.upper(), 1);
            due.is("lower() behind village()", x.lower(), 3);
            x.odds();
            due.is("upper() of no chance", x.upper(), 0);
            due.is("lower() of no chance", x.lower(), 1);
            x.meet(0, 1);
            x.odds();
            due.is("upper() of all chances", x.upper(), 1);
            due.is("lower() of all chances", x.lower(), 1);
        });
        edges.of(41, "0 before", due -> {
            KissClearing x = new KissClearing();
            due.is("upper() of a new one", x.upper(), 0);
            x.odds();
            due.is("upper() behind a refused odds()", x.upper(), 0);
        });
        edges.of(42, "Its lower number", due -> {
            KissClearing x = Due.village("pppppp x01h1 x12h2");
            x.odds();
            due.is("lower()", x.lower(), 6);
            x.meet(1, 2);
            due.is("lower(), till odds() tells anew", x.lower(), 6);
            x.odds();
            due.is("lower() anew", x.lower(), 1);
        });
        edges.of(42, "1 before", due -> {
            KissClearing x = new KissClearing();
            due.is("lower() of a new one", x.lower(), 1);
            x.odds();
            due.is("lower() behind a refused odds()", x.lower(), 1);
        });
    }

    private static void count(Edges edges) {
        edges.of(43, "0 PERSONS", due -> {
            KissClearing x = new KissClearing();
            due.is("count(0) of none", x.count(0), 0);
            for (int n = 2; n <= 6; n++) {
                Due.write(x, 0, "pasbgi".substring(0, n));
                x.village(0);
                due.is("count(0) of " + n, x.count(0), n);
            }
        });
        edges.of(43, "1 DRAFTS", due -> {
            KissClearing x = Due.village("pp");
            for (int i = 0; i < 12; i++) {
                due.is("count(1)", x.count(1), i);
                x.owe(10, 1);
            }
            due.is("count(1) of 12", x.count(1), 12);
            x.owe(10, 1);
            due.is("count(1) behind a refused one", x.count(1), 12);
            x.meet(0, 1);
            due.is("count(1), though all are paid", x.count(1), 12);
        });
        edges.of(43, "2 DEEDS", due -> {
            KissClearing x = Due.village("pp x01h1");
            for (int i = 0; i < 40; i++) {
                due.is("count(2)", x.count(2), i);
                x.week();
            }
            due.is("count(2) of 40", x.count(2), 40);
            x.week();
            due.is("count(2) behind a refused one", x.count(2), 40);
            x.undo(7);
            due.is("count(2) behind undo(7)", x.count(2), 7);
        });
        edges.of(43, "5 AUNTS (GRANDAUNTS, too)", due -> {
            due.is("count(5) of none", Due.village("psbi").count(5), 0);
            due.is("count(5) of all", Due.village("agagag").count(5), 6);
            due.is("count(5)", Due.village("pasbgi").count(5), 2);
        });
        edges.of(43, "6 ROWS", due -> {
            KissClearing x = new KissClearing();
            for (int r = 0; r < 6; r++) {
                due.is("count(6)", x.count(6), r);
                x.row(5 - r, r);
            }
            due.is("count(6) of all", x.count(6), 6);
            x.tear(0);
            due.is("count(6) behind tear(0)", x.count(6), 5);
        });
        edges.of(43, "7 TEXTS that are there", due -> {
            KissClearing x = new KissClearing();
            for (int t = 0; t < 4; t++) {
                due.is("count(7)", x.count(7), t);
                x.text(3 - t, t);
            }
            due.is("count(7) of all", x.count(7), 4);
            x.text(0, 0);
            due.is("count(7), one anew", x.count(7), 4);
        });
        edges.of(43, "8 kept VILLAGES", due -> {
            KissClearing x = Due.village("pp");
            for (int k = 0; k < 3; k++) {
                due.is("count(8)", x.count(8), k);
                x.keep(2 - k);
            }
            due.is("count(8) of all", x.count(8), 3);
            x.on(0);
            due.is("count(8) behind on(0)", x.count(8), 3);
            x.village(3);
            due.is("count(8) behind village(3)", x.count(8), 0);
        });
    }

    private static void countOfDrafts(Edges edges) {
        edges.of(43, "3 OPEN DRAFTS", due -> {
            KissClearing x = Due.village("psp x01h1 x10c1 x21t1 x12h2");
            due.is("count(3)", x.count(3), 4);
            x.meet(0, 1);
            due.is("count(3): what a sailor owes is open yet", x.count(3), 3);
            for (int i = 0; i < 4; i++) {
                x.week();
            }
            due.is("count(3) when all went sour but true ones", x.count(3), 1);
            due.is("count(3) of none", Due.village("pp").count(3), 0);
        });
        edges.of(43, "4 KISSES of these", due -> {
            KissClearing x = Due.village("ppg x01h5 x10c4 x12t3");
            due.is("count(4): kisses, not what they count", x.count(4), 12);
            x.week();
            due.is("count(4) behind a week", x.count(4), 14);
            x.meet(0, 1);
            due.is("count(4) when two are paid", x.count(4), 5);
            x.meet(1, 2);
            due.is("count(4) of none", x.count(4), 0);
        });
        edges.of(43, "BAD", due -> {
            KissClearing x = Due.village("pp x01h1");
            for (int what : new int[] {-1, 9, Due.MIN, Due.MAX}) {
                due.refuses(x, "count(" + what + ")", () -> x.count(what), Due.BAD);
            }
        });
    }

    private static void findings(Edges edges) {
        edges.of(44, "The latest FINDING", due -> {
            KissClearing x = Due.village("pp");
            x.at(0, 0);
            due.is("finding() NOTHING", x.finding(), 1);
            x.row(0, 0);
            due.is("finding() behind what is not refused", x.finding(), 1);
            x.at(0, 0);
            due.is("finding() BEYOND", x.finding(), 2);
            x.mark(0, 1);
            due.is("finding() UNLIKE", x.finding(), 3);
            x.mean(0);
            due.is("finding() NOUGHT", x.finding(), 4);
            x.row(0, -1);
            due.is("finding() SIZE", x.finding(), 5);
            x.at(9, 0);
            x.ring(0, 0);
            x.village(3);
            due.is("finding() behind BAD, NONE, a new village", x.finding(), 5);
            x.at(1, 0);
            due.is("finding() NOTHING again", x.finding(), 1);
        });
        edges.of(44, "(0 before any)", due -> {
            KissClearing x = new KissClearing();
            due.is("finding() of a new one", x.finding(), 0);
            x.row(0, 41);
            x.week();
            x.ring(0, 0);
            x.owe(10, 1);
            due.is("finding() behind BAD, STATE, NONE", x.finding(), 0);
        });
        edges.of(45, "How often a FINDING (1 .. 5) was answered", due -> {
            KissClearing x = Due.village("pp");
            x.row(0, 0);
            for (int n = 0; n < 30; n++) {
                for (int f = 1; f <= 5; f++) {
                    due.is("findings(" + f + ")", x.findings(f), n);
                }
                x.at(1, 0);
                x.at(0, 0);
                x.mark(0, 1);
                x.mean(0);
                x.row(0, -1);
                x.row(0, 41);
                x.village(3);
            }
            KissClearing often = new KissClearing();
            for (int n = 0; n < 511; n++) {
                often.tear(n % 6);
            }
            due.is("findings(1) as the 512th call, the last that is promised", often.findings(1), 511);
        });
        edges.of(45, "BAD", due -> {
            KissClearing x = Due.village("pp");
            for (int f : new int[] {0, -1, 6, Due.MIN, Due.MAX}) {
                due.refuses(x, "findings(" + f + ")", () -> x.findings(f), Due.BAD);
            }
        });
    }

    private static long mix(long h, long... values) {
        for (long v : values) {
            h = 31 * h + v;
        }
        return h;
    }

    /** What the digest is made of, by the other calls alone; the sizes of rows, and texts, are given. */
    private static long mixed(KissClearing x, int[] deeds, int[] rows, String[] texts) {
        long h = 17;
        for (int what = 0; what <= 8; what++) {
            h = mix(h, x.count(what));
        }
        for (int p = 0; p < x.count(0); p++) {
            for (int what = 0; what <= 4; what++) {
                x.person(p, what);
                h = mix(h, x.asked());
            }
        }
        for (int i = 0; i < x.count(1); i++) {
            for (int what = 0; what <= 5; what++) {
                x.draft(i, what);
                h = mix(h, x.asked());
            }
        }
        for (int kept : deeds) {
            h = mix(h, kept);
        }
        for (int r = 0; r < 6; r++) {
            h = mix(h, rows[r]);
            for (int i = 0; i < rows[r]; i++) {
                x.at(r, i);
                h = mix(h, x.asked());
            }
        }
        for (String text : texts) {
            h = mix(h, text == null ? -1 : text.length());
            for (int i = 0; text != null && i < text.length(); i++) {
                h = mix(h, (byte) text.charAt(i));
            }
        }
        return h;
    }

    private static void digest(Edges edges) {
        edges.of(46, "h = 17; then h = 31 h + v for each v (of a call that tells by asked(): what it tells, not the 1 that it answers",
                due -> {
            KissClearing x = Due.village("gs x01c5 x10t2");
            x.week();
            x.keep(1);
            long h = mix(17, 2, 2, 1, 2, 5 + 4, 1, 0, 1, 1);
            h = mix(h, 4, 10, 12, 1, 1, 2, 12, 10, 0, 1);
            h = mix(h, 0, 1, 1, 5, 1, 0, 1, 0, 2, 4, 1, 0);
            h = mix(h, -1, 1, -1, -1, -1, -1, -1, -1, -1, -1, -1, -1, 14);
            h = mix(h, 'g', 's', ' ', 'x', '0', '1', 'c', '5', ' ', 'x', '1', '0', 't', '2');
            due.is("digest()", x.digest(), h);
        });
        edges.of(46, "asked() stays)", due -> {
            KissClearing x = told();
            x.digest();
            due.is("asked() behind digest()", x.asked(), 99);
            due.is("digest() is as it was", x.digest(), x.digest());
        });
        edges.of(46, "count() 0 to 8", due -> {
            long h = mix(17, 0, 0, 0, 0, 0, 0, 0, 0, 0);
            h = mix(h, -1, -1, -1, -1, -1, -1, -1, -1, -1, -1, -1, -1, -1);
            due.is("digest() of a new one", new KissClearing().digest(), h);
            KissClearing x = Due.village("agp x01h1");
            due.is("digest() of three", x.digest(), mixed(x, new int[] {-1, -1, -1}, new int[] {-1, -1, -1, -1, -1, -1},
                    new String[] {null, null, null, "agp x01h1"}));
        });
    }

    private static void digestOfParts(Edges edges) {
        String text = "pasbgi x01h1 x12c2 x23t3 x34h4 x45c5 x50t6 x02h7 x13c8 x24t9 x35h1 x40c2 x51t3";
        edges.of(46, "of each PERSON person() 0 to 4; of each DRAFT draft() 0 to 5", due -> {
            KissClearing x = Due.village(text);
            x.endorse(11, 2);
            x.endorse(11, 3);
            x.week();
            due.is("digest() of six, twelve", x.digest(), mixed(x, new int[] {-1, -1, -1}, new int[] {-1, -1, -1, -1, -1, -1},
                    new String[] {null, null, null, text}));
        });
        edges.of(46, "of each kept VILLAGE how many DEEDS (-1: missing)", due -> {
            KissClearing x = Due.village("pp");
            x.keep(1);
            int[] none = {-1, -1, -1, -1, -1, -1};
            String[] texts = {null, null, null, "pp"};
            due.is("digest() with one of none", x.digest(), mixed(x, new int[] {-1, 0, -1}, none, texts));
            x.week();
            x.keep(0);
            Due.full(x, 0, 1);
            x.keep(2);
            due.is("digest() with three", x.digest(), mixed(x, new int[] {1, 0, 40}, none, texts));
        });
        edges.of(46, "of each ROW its size (-1: missing) and places", due -> {
            KissClearing x = Due.village("pp");
            Due.fill(x, 0, Due.MIN, -1, Due.MAX);
            x.row(1, 0);
            x.row(5, 40);
            x.lay(5, 39, -7);
            Due.fill(x, 2, 1, 2);
            x.tear(2);
            Due.fill(x, 3, 4, 5, 6);
            x.row(3, 1);
            due.is("digest() with rows", x.digest(), mixed(x, new int[] {-1, -1, -1}, new int[] {3, 0, -1, 1, -1, 40},
                    new String[] {null, null, null, "pp"}));
        });
        edges.of(46, "of each TEXT likewise", due -> {
            KissClearing x = new KissClearing();
            x.text(0, 0);
            x.text(1, 80);
            Due.write(x, 3, "a\u00ff\u0080\u007f");
            due.is("digest() with texts", x.digest(), mixed(x, new int[] {-1, -1, -1}, new int[] {-1, -1, -1, -1, -1, -1},
                    new String[] {"", " ".repeat(80), null, "a\u00ff\u0080\u007f"}));
        });
    }
}
