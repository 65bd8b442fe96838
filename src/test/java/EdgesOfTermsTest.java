import java.util.Arrays;

/** The document's 'Terms', sentence by sentence: refusals, findings, and the bounds of all that there is. */
public final class EdgesOfTermsTest {
    private static final int TERMS = Edges.TERMS;

    public static void main(String[] args) {
        look().end();
    }

    static Edges look() {
        Edges edges = new Edges();
        refusals(edges);
        refusedChangesNothing(edges);
        findings(edges);
        chancesAndSets(edges);
        rowsAndTexts(edges);
        texts(edges);
        faults(edges);
        faultsOfDrafts(edges);
        faultsOfEnds(edges);
        kinds(edges);
        sorts(edges);
        openDrafts(edges);
        meetings(edges);
        ringsCleared(edges);
        ringsOfWhom(edges);
        endorsed(edges);
        weeks(edges);
        weeksGoneSour(edges);
        deeds(edges);
        owing(edges);
        falling(edges);
        edges.wholly(TERMS, TERMS);
        return edges;
    }

    /** A constant as the class has it now; its name alone would be what it was when the test was compiled. */
    private static int constant(String name) {
        try {
            return KissClearing.class.getField(name).getInt(null);
        } catch (ReflectiveOperationException missing) {
            throw new IllegalStateException("no constant " + name, missing);
        }
    }

    private static void refusals(Edges edges) {
        edges.of(TERMS, "Refused is, the first of these that fits, in this order: BAD -1 (a number that is none, or not as told)",
                due -> {
            due.is("BAD", constant("BAD"), -1);
            KissClearing x = new KissClearing();
            due.refuses(x, "BAD ahead of STATE", () -> x.keep(3), -1);
            due.refuses(x, "BAD ahead of STATE", () -> x.lots(0, 1), -1);
            due.refuses(x, "BAD ahead of STATE", () -> x.blushes(6), -1);
            due.refuses(x, "BAD ahead of FINDING", () -> x.on(3), -1);
            due.refuses(x, "BAD ahead of FINDING", () -> x.row(6, -1), -1);
            due.refuses(x, "BAD ahead of FINDING", () -> x.text(4, -1), -1);
            KissClearing y = Due.full(Due.village("pp"), 0, 1);
            due.refuses(y, "BAD ahead of FULL", () -> y.owe(0, 1), -1);
            due.refuses(y, "BAD ahead of FULL", () -> y.meet(0, 0), -1);
        });
        edges.of(TERMS, "FULL -2", due -> {
            due.is("FULL", constant("FULL"), -2);
            KissClearing x = Due.full(Due.village("pp"), 0, 1);
            due.refuses(x, "week() as deed 41", x::week, -2);
        });
        edges.of(TERMS, "STATE -4 (not now)", due -> {
            due.is("STATE", constant("STATE"), -4);
            KissClearing x = new KissClearing();
            due.refuses(x, "week() of no persons", x::week, -4);
            due.refuses(x, "blushes(0) of no persons: STATE ahead of FINDING", () -> x.blushes(0), -4);
        });
        edges.of(TERMS, "SPENT -6 (more than told)", due -> due.is("SPENT", constant("SPENT"), -6));
        edges.of(TERMS, "FINDING -3 (finding() tells which)", due -> {
            due.is("FINDING", constant("FINDING"), -3);
            KissClearing x = new KissClearing();
            due.is("tear(0)", x.tear(0), -3);
            due.is("finding()", x.finding(), 1);
        });
        edges.of(TERMS, "unless a call says so otherwise", due -> {
            KissClearing x = Due.full(Due.village("pp x01h1"), 0, 1);
            due.refuses(x, "endorse(): STATE ahead of FULL", () -> x.endorse(0, 1), -4);
            due.finds(x, "clear(): NOTHING ahead of FULL", () -> x.clear(0), 1);
            KissClearing y = new KissClearing();
            due.finds(y, "village(): NOTHING ahead of STATE", () -> y.village(0), 1);
        });
        edges.of(TERMS, "NONE -9 (a ROW that something was to come to stays as it is then)", due -> {
            due.is("NONE", constant("NONE"), -9);
            KissClearing x = Due.village("pp x01h1");
            Due.fill(x, 0, 5, 6);
            due.refuses(x, "ring(0, 0)", () -> x.ring(0, 0), -9);
            due.refuses(x, "ring(0, 1), which is missing", () -> x.ring(0, 1), -9);
            due.holds(x, "which stays", 0, 5, 6);
            due.finds(x, "at(1, 0)", () -> x.at(1, 0), 1);
        });
    }

    /** A village with all that a refused call could change, and the six rows but for row 5, three texts. */
    private static KissClearing rich() {
        KissClearing x = Due.village("pasbgi x01h5 x12h4 x20h3 x34c2 x43t1");
        Due.fill(x, 0, 0, 1, 2);
        Due.fill(x, 1, 0, 1);
        Due.fill(x, 2, 9, 9, 9, 9, 9, 0);
        x.row(3, 0);
        Due.fill(x, 4, 0, 99);
        Due.write(x, 0, "ppx");
        x.text(1, 0);
        x.week();
        x.endorse(3, 5);
        x.keep(0);
        x.odds();
        x.person(0, 1);
        return x;
    }

    private static void refusedChangesNothing(Edges edges) {
        edges.of(TERMS, "What is refused changes nothing but finding(), findings()", due -> {
            refusedByNumbers(due, rich());
            refusedByNumbersOfDeeds(due, rich());
            refusedByNumbersOfAnswers(due, rich());
            refusedByFindings(due, rich());
            refusedByState(due, rich());
            KissClearing full = Due.full(rich(), 0, 5);
            due.refuses(full, "owe(10, 1)", () -> full.owe(10, 1), Due.FULL);
            due.refuses(full, "meet(0, 1)", () -> full.meet(0, 1), Due.FULL);
            due.refuses(full, "clear(0)", () -> full.clear(0), Due.FULL);
            due.refuses(full, "endorse(0, 2)", () -> full.endorse(0, 2), Due.FULL);
            due.refuses(full, "week()", full::week, Due.FULL);
            due.refuses(full, "lots(1, 1)", () -> full.lots(1, 1), Due.FULL);
            due.is("undo(2) behind all of these", full.undo(2), 38);
            due.is("digest() behind undo(2)", full.digest(), rich().digest());
        });
    }

    /** The village of rich() is as it was, behind calls that were refused. */
    private static void stays(Due due, KissClearing x) {
        due.is("digest() behind all of these", x.digest(), rich().digest());
        due.is("undo(0) behind all of these", x.undo(0), 2);
        due.kisses(x, "behind undo(0)", 5, 4, 3, 2, 1);
        due.is("on(0) behind all of these", x.on(0), 2);
    }

    private static void refusedByState(Due due, KissClearing x) {
        due.refuses(x, "village(0) of a FAULT", () -> x.village(0), Due.STATE);
        due.refuses(x, "clear(1) of no ring", () -> x.clear(1), Due.STATE);
        due.refuses(x, "endorse(0, 1), owed to that one", () -> x.endorse(0, 1), Due.STATE);
        due.refuses(x, "ring(1, 0)", () -> x.ring(1, 0), Due.NONE);
        stays(due, x);
    }

    private static void refusedByNumbers(Due due, KissClearing x) {
        due.refuses(x, "row(0, 41)", () -> x.row(0, 41), Due.BAD);
        due.refuses(x, "lay(6, 0, 1)", () -> x.lay(6, 0, 1), Due.BAD);
        due.refuses(x, "at(6, 0)", () -> x.at(6, 0), Due.BAD);
        due.refuses(x, "tear(6)", () -> x.tear(6), Due.BAD);
        due.refuses(x, "copy(0, 0, 6, 0, 1)", () -> x.copy(0, 0, 6, 0, 1), Due.BAD);
        due.refuses(x, "mean(6)", () -> x.mean(6), Due.BAD);
        due.refuses(x, "text(0, 81)", () -> x.text(0, 81), Due.BAD);
        due.refuses(x, "put(4, 0, 1)", () -> x.put(4, 0, 1), Due.BAD);
        due.refuses(x, "fault(4)", () -> x.fault(4), Due.BAD);
        due.refuses(x, "village(4)", () -> x.village(4), Due.BAD);
        due.refuses(x, "person(6, 0)", () -> x.person(6, 0), Due.BAD);
        due.refuses(x, "draft(5, 0)", () -> x.draft(5, 0), Due.BAD);
        due.refuses(x, "mark(0, 0)", () -> x.mark(0, 0), Due.BAD);
        stays(due, x);
    }

    private static void refusedByNumbersOfDeeds(Due due, KissClearing x) {
        due.refuses(x, "owe(0, 1)", () -> x.owe(0, 1), Due.BAD);
        due.refuses(x, "meet(0, 0)", () -> x.meet(0, 0), Due.BAD);
        due.refuses(x, "clear(6)", () -> x.clear(6), Due.BAD);
        due.refuses(x, "endorse(0, 0)", () -> x.endorse(0, 0), Due.BAD);
        due.refuses(x, "undo(3)", () -> x.undo(3), Due.BAD);
        due.refuses(x, "keep(3)", () -> x.keep(3), Due.BAD);
        due.refuses(x, "on(3)", () -> x.on(3), Due.BAD);
        due.refuses(x, "lots(0, 1)", () -> x.lots(0, 1), Due.BAD);
        stays(due, x);
    }

    private static void refusedByNumbersOfAnswers(Due due, KissClearing x) {
        due.refuses(x, "between(0, 0, 0)", () -> x.between(0, 0, 0), Due.BAD);
        due.refuses(x, "all(2)", () -> x.all(2), Due.BAD);
        due.refuses(x, "ring(2, 0)", () -> x.ring(2, 0), Due.BAD);
        due.refuses(x, "net(3)", () -> x.net(3), Due.BAD);
        due.refuses(x, "left(2)", () -> x.left(2), Due.BAD);
        due.refuses(x, "falls(6)", () -> x.falls(6), Due.BAD);
        due.refuses(x, "saved(0, 0)", () -> x.saved(0, 0), Due.BAD);
        due.refuses(x, "gain(6)", () -> x.gain(6), Due.BAD);
        due.refuses(x, "trust(0, 0)", () -> x.trust(0, 0), Due.BAD);
        due.refuses(x, "blushes(6)", () -> x.blushes(6), Due.BAD);
        due.refuses(x, "sure(6)", () -> x.sure(6), Due.BAD);
        due.refuses(x, "count(9)", () -> x.count(9), Due.BAD);
        due.refuses(x, "findings(6)", () -> x.findings(6), Due.BAD);
        stays(due, x);
    }

    private static void refusedByFindings(Due due, KissClearing x) {
        due.finds(x, "row(0, -1)", () -> x.row(0, -1), Due.SIZE);
        due.finds(x, "lay(0, 3, 1)", () -> x.lay(0, 3, 1), Due.BEYOND);
        due.finds(x, "at(5, 0)", () -> x.at(5, 0), Due.NOTHING);
        due.finds(x, "tear(5)", () -> x.tear(5), Due.NOTHING);
        due.finds(x, "copy(0, 0, 1, 0, 3)", () -> x.copy(0, 0, 1, 0, 3), Due.BEYOND);
        due.finds(x, "mean(3)", () -> x.mean(3), Due.NOUGHT);
        due.finds(x, "text(0, -1)", () -> x.text(0, -1), Due.SIZE);
        due.finds(x, "put(1, 0, 1)", () -> x.put(1, 0, 1), Due.BEYOND);
        due.finds(x, "fault(2)", () -> x.fault(2), Due.NOTHING);
        due.finds(x, "village(2)", () -> x.village(2), Due.NOTHING);
        due.finds(x, "mark(0, 1)", () -> x.mark(0, 1), Due.UNLIKE);
        due.finds(x, "clear(4)", () -> x.clear(4), Due.UNLIKE);
        due.finds(x, "on(1)", () -> x.on(1), Due.NOTHING);
        due.finds(x, "gain(2)", () -> x.gain(2), Due.UNLIKE);
        due.finds(x, "blushes(0)", () -> x.blushes(0), Due.SIZE);
        due.finds(x, "sure(5)", () -> x.sure(5), Due.NOTHING);
        stays(due, x);
    }

    private static void findings(Edges edges) {
        edges.of(TERMS, "FINDINGS: 1 NOTHING (a ROW, a TEXT, a kept VILLAGE that is missing)", due -> {
            KissClearing x = Due.village("pp");
            due.finds(x, "at(0, 0)", () -> x.at(0, 0), 1);
            due.finds(x, "fault(0)", () -> x.fault(0), 1);
            due.finds(x, "on(0)", () -> x.on(0), 1);
        });
        edges.of(TERMS, "2 BEYOND (a place that there is not)", due -> {
            KissClearing x = Due.village("pp");
            x.row(0, 2);
            due.finds(x, "at(0, 2)", () -> x.at(0, 2), 2);
            due.finds(x, "put(3, 2, 1)", () -> x.put(3, 2, 1), 2);
            due.finds(x, "copy(0, 0, 0, 1, 2)", () -> x.copy(0, 0, 0, 1, 2), 2);
        });
        edges.of(TERMS, "3 UNLIKE (a PERSON of another KIND; a number that is none)", due -> {
            KissClearing x = Due.village("pp");
            due.finds(x, "mark(0, 5)", () -> x.mark(0, 5), 3);
            x.row(0, 6);
            due.finds(x, "clear(0)", () -> x.clear(0), 3);
            due.finds(x, "gain(0)", () -> x.gain(0), 3);
        });
        edges.of(TERMS, "4 NOUGHT (shared among none)", due -> {
            KissClearing x = new KissClearing();
            x.row(0, 0);
            due.finds(x, "mean(0)", () -> x.mean(0), 4);
        });
        edges.of(TERMS, "5 SIZE (fewer than none; not as many as due)", due -> {
            KissClearing x = Due.village("pp");
            due.finds(x, "row(0, -1)", () -> x.row(0, -1), 5);
            x.row(0, 3);
            due.finds(x, "gain(0)", () -> x.gain(0), 5);
            due.finds(x, "blushes(0)", () -> x.blushes(0), 5);
        });
    }

    private static void chancesAndSets(Edges edges) {
        edges.of(TERMS, "Chances are told by upper(), lower(), in lowest terms, the lower number above 0 (0 by 1)", due -> {
            String[] villages = {"pp x01h9 x10h9", "pppp x01h9 x10h9", "pppppp x01h9 x10h9", "pppppp x01h1 x12h2 x23h3 x34h4",
                "pppppp x01h2 x10h2 x23h2 x32h2 x45h2 x54h2", "pppppp"};
            int[] uppers = {0, 1, 2, 1, 0, 1};
            int[] lowers = {1, 2, 3, 2, 1, 1};
            for (int i = 0; i < villages.length; i++) {
                KissClearing x = Due.village(villages[i]);
                x.odds();
                due.is("upper() of " + villages[i], x.upper(), uppers[i]);
                due.is("lower() of " + villages[i], x.lower(), lowers[i]);
            }
        });
        edges.of(TERMS, "Sets (of PERSONS, of DRAFTS) are told by bits", due -> {
            KissClearing x = Due.village("pppppp x50h1 x01h2 x05h9 x51h1 x05h9 x05h9 x05h9 x05h9 x05h9 x05h9 x05h9 x05c3");
            due.is("falls(5): 0 is bit 0", x.falls(5) & 1, 1);
            KissClearing y = Due.village("pp x10h1");
            due.is("falls(0): nobody", y.falls(0), 0);
            KissClearing z = Due.village("pppppp x54h9");
            due.is("falls(0): 5 is bit 5", z.falls(0), 32);
            Due.fill(x, 0, 3, 0, 0, 0, 0, 3);
            due.tells(x, "blushes(0): draft 11 is bit 11", x.blushes(0), 1, 1 << 11);
            Due.fill(x, 0, 1, 0, 0, 0, 0, 1);
            due.tells(x, "blushes(0): draft 0 is bit 0", x.blushes(0), 1, 1);
            due.is("sure(0): draft 0 is bit 0", x.sure(0), 1);
        });
    }

    private static void rowsAndTexts(Edges edges) {
        edges.of(TERMS, "1 ROWS 0 .. 5 are rows of 0 to 40 ints", due -> {
            KissClearing x = new KissClearing();
            for (int r = 0; r <= 5; r++) {
                due.is("row(" + r + ", 0)", x.row(r, 0), 0);
                due.is("row(" + r + ", 40)", x.row(r, 40), 40);
            }
            for (int r : new int[] {-1, 6}) {
                due.refuses(x, "row(" + r + ", 0)", () -> x.row(r, 0), Due.BAD);
            }
            due.refuses(x, "row(0, 41)", () -> x.row(0, 41), Due.BAD);
            for (int r = 0; r <= 5; r++) {
                x.lay(r, 39, 100 + r);
            }
            for (int r = 0; r <= 5; r++) {
                due.tells(x, "at(" + r + ", 39): each row is one of its own", x.at(r, 39), 1, 100 + r);
            }
        });
        edges.of(TERMS, "TEXTS 0 .. 3 rows of 0 to 80 bytes", due -> {
            KissClearing x = new KissClearing();
            for (int t = 0; t <= 3; t++) {
                due.is("text(" + t + ", 0)", x.text(t, 0), 0);
                due.is("text(" + t + ", 80)", x.text(t, 80), 80);
            }
            for (int t : new int[] {-1, 4}) {
                due.refuses(x, "text(" + t + ", 0)", () -> x.text(t, 0), Due.BAD);
            }
            due.refuses(x, "text(0, 81)", () -> x.text(0, 81), Due.BAD);
            for (int t = 0; t <= 3; t++) {
                x.put(t, 79, 100 + t);
            }
            for (int t = 0; t <= 3; t++) {
                due.is("put(" + t + ", 79, 0): each text is one of its own", x.put(t, 79, 0), 1100 + t);
            }
        });
        edges.of(TERMS, "or missing (at first)", due -> {
            KissClearing x = new KissClearing();
            for (int r = 0; r <= 5; r++) {
                int row = r;
                due.finds(x, "tear(" + r + ")", () -> x.tear(row), 1);
            }
            for (int t = 0; t <= 3; t++) {
                int text = t;
                due.finds(x, "put(" + t + ", 0, 1)", () -> x.put(text, 0, 1), 1);
            }
        });
    }

    private static void fault(Due due, String text, int want) {
        KissClearing x = new KissClearing();
        Due.write(x, 0, text);
        due.is("fault of '" + text + "'", x.fault(0), want);
        if (want == Due.NONE) {
            due.is("village of '" + text + "' is one", x.village(0) >= 2 ? 1 : 0, 1);
        } else {
            due.refuses(x, "village of '" + text + "'", () -> x.village(0), Due.STATE);
        }
    }

    private static void texts(Edges edges) {
        edges.of(TERMS, "A VILLAGE (without PERSONS, DRAFTS at first) is a TEXT", due -> {
            KissClearing x = new KissClearing();
            due.is("persons at first", x.count(0), 0);
            due.is("drafts at first", x.count(1), 0);
            due.is("deeds at first", x.count(2), 0);
            Due.write(x, 2, "ppx01h1");
            due.is("persons, when the text is written", x.count(0), 0);
            due.is("village(2)", x.village(2), 2);
        });
        edges.of(TERMS, "blanks (32) ahead, between, behind as many as wanted", due -> {
            fault(due, "ppx01h1x10h1", Due.NONE);
            fault(due, "   p   p   x01h1   x10h1   ", Due.NONE);
            fault(due, " ".repeat(78) + "pp", Due.NONE);
            fault(due, "pp" + " ".repeat(78), Due.NONE);
            fault(due, "p" + " ".repeat(78) + "p", Due.NONE);
            fault(due, "pp" + " ".repeat(73) + "x01h1", Due.NONE);
            fault(due, "p\tp", 1);
            fault(due, "p\u0000p", 1);
            fault(due, "p\np", 1);
        });
        edges.of(TERMS, "none within items", due -> {
            fault(due, "pp x 01h1", 4);
            fault(due, "pp x0 1h1", 5);
            fault(due, "pp x01 h1", 6);
            fault(due, "pp x01h 1", 7);
        });
        edges.of(TERMS, "First PERSONS (2 to 6; 0, 1, .. as they come), a letter each", due -> {
            for (int n = 2; n <= 6; n++) {
                fault(due, "pasbgi".substring(0, n), Due.NONE);
            }
            fault(due, "p", 1);
            fault(due, "pasbgip", 6);
            KissClearing x = Due.village("i gbsap");
            int[] kinds = {5, 4, 3, 2, 1, 0};
            for (int p = 0; p < 6; p++) {
                due.tells(x, "person(" + p + ", 0)", x.person(p, 0), 1, kinds[p]);
            }
        });
        edges.of(TERMS, "Then DRAFTS (12 at most; 0, 1, ..): x (120), WHO owes, TO WHOM (one figure each, unlike), "
                + "the SORT (h (104), c (99), t (116)), how many KISSES (1 .. 9, one figure)", due -> {
            KissClearing x = Due.village("pppppp x05h1x50c9x45t5 x01h2x01h2x01h2x01h2x01h2x01h2x01h2x01h2x54t9");
            int[][] drafts = {{0, 5, 0, 1}, {5, 0, 1, 9}, {4, 5, 2, 5}, {0, 1, 0, 2}};
            for (int i = 0; i < drafts.length; i++) {
                for (int what = 0; what < 4; what++) {
                    due.tells(x, "draft(" + i + ", " + what + ")", x.draft(i, what), 1, drafts[i][what]);
                }
            }
            due.is("twelve", x.count(1), 12);
            due.tells(x, "draft(11, 3)", x.draft(11, 3), 1, 9);
            fault(due, "ppx01h19", 7);
        });
    }

    private static void faults(Edges edges) {
        edges.of(TERMS, "A FAULT is the first place at which it can't go on so (a letter", due -> {
            fault(due, "qp", 0);
            fault(due, "pq", 1);
            fault(due, "pP", 1);
            fault(due, "ph", 1);
            fault(due, "ppX01h1", 2);
            fault(due, "ppx01H1", 5);
            fault(due, "ppx01p1", 5);
            fault(due, "ppx01x1", 5);
            fault(due, "ppx0111", 5);
            fault(due, "ppx01h1y", 7);
            fault(due, "pp\u0080", 2);
            fault(due, "ppx01\u00e81", 5);
            fault(due, "qq ppp x00", 0);
        });
        edges.of(TERMS, "a figure that is none such", due -> {
            fault(due, "ppx/1h1", 3);
            fault(due, "ppx:1h1", 3);
            fault(due, "ppxp1h1", 3);
            fault(due, "ppx0/h1", 4);
            fault(due, "ppx0:h1", 4);
            fault(due, "ppx0hh1", 4);
            fault(due, "ppx01h0", 6);
            fault(due, "ppx01h/", 6);
            fault(due, "ppx01h:", 6);
            fault(due, "ppx01hx", 6);
            fault(due, "ppx01h ", 6);
            fault(due, "pp1", 2);
            fault(due, "ppx01h9", Due.NONE);
            fault(due, "ppx01h1", Due.NONE);
        });
        edges.of(TERMS, "a PERSON that there is not", due -> {
            fault(due, "ppx20h1", 3);
            fault(due, "ppx02h1", 4);
            fault(due, "ppx90h1", 3);
            fault(due, "ppx09h1", 4);
            fault(due, "pppx20h1", Due.NONE);
            fault(due, "pppppp x60h1", 8);
            fault(due, "pppppp x06h1", 9);
            fault(due, "pppppp x50h1 x05h1", Due.NONE);
        });
        edges.of(TERMS, "the same twice", due -> {
            fault(due, "ppx00h1", 4);
            fault(due, "ppx11h1", 4);
            fault(due, "pppppp x55h1", 9);
            fault(due, "ppx22h1", 3);
        });
    }

    private static void faultsOfDrafts(Edges edges) {
        edges.of(TERMS, "a seventh PERSON", due -> {
            fault(due, "pasbgip", 6);
            fault(due, "  pasbgi  g", 10);
            fault(due, "pppppppppp", 6);
            fault(due, "pasbgi", Due.NONE);
        });
        edges.of(TERMS, "a thirteenth DRAFT", due -> {
            String twelve = "pp" + "x01h1".repeat(12);
            fault(due, twelve, Due.NONE);
            fault(due, twelve + "x01h1", 62);
            fault(due, twelve + "  x01h1", 64);
            fault(due, twelve + "x", 62);
            fault(due, twelve + "x99", 62);
        });
        edges.of(TERMS, "a PERSON behind a DRAFT", due -> {
            fault(due, "ppx01h1p", 7);
            fault(due, "ppx01h1 a", 8);
            fault(due, "ppx01h1x01h1i", 12);
            fault(due, "ppx01h1gx21h1", 7);
        });
        edges.of(TERMS, "a DRAFT ahead of two PERSONS: its place", due -> {
            fault(due, "x01h1", 0);
            fault(due, "  x01h1pp", 2);
            fault(due, "px01h1", 1);
            fault(due, "p x01h1p", 2);
            fault(due, "px", 1);
            fault(due, "x", 0);
        });
    }

    private static void faultsOfEnds(Edges edges) {
        edges.of(TERMS, "the TEXT's size, if its end comes too early", due -> {
            fault(due, "ppx", 3);
            fault(due, "ppx0", 4);
            fault(due, "ppx01", 5);
            fault(due, "ppx01h", 6);
            fault(due, "ppx01h1 x01h", 12);
            fault(due, " ".repeat(77) + "ppx", 80);
            fault(due, "pp" + " ".repeat(74) + "x01h", 80);
        });
        edges.of(TERMS, "or there are fewer than two PERSONS)", due -> {
            fault(due, "", 0);
            fault(due, " ", 1);
            fault(due, " ".repeat(80), 80);
            fault(due, "p", 1);
            fault(due, "i", 1);
            fault(due, "  a  ", 5);
            fault(due, "pp", Due.NONE);
        });
    }

    private static void kind(Due due, String letter, int kind, int reserve, String kinds) {
        KissClearing x = Due.village("p" + letter);
        due.tells(x, "kind of " + letter, x.person(1, 0), 1, kind);
        for (int k = 1; k <= 5; k++) {
            due.is("mark(1, " + k + ") of " + letter, x.mark(1, k) >= 0 ? 1 : 0, kinds.indexOf('0' + k) >= 0 ? 1 : 0);
        }
        due.tells(x, "reserve of " + letter, x.person(1, 3), 1, reserve);
    }

    private static void kinds(Edges edges) {
        edges.of(TERMS, "KINDS of PERSONS and letters: 0 PERSON (p, 112)", due -> kind(due, "\u0070", 0, 1, ""));
        edges.of(TERMS, "1 AUNT (a, 97; a PERSON)", due -> kind(due, "\u0061", 1, 1, "1"));
        edges.of(TERMS, "2 SAILOR (s, 115; a PERSON)", due -> kind(due, "\u0073", 2, 0, "2"));
        edges.of(TERMS, "3 BRIDE (b, 98; a PERSON)", due -> kind(due, "\u0062", 3, 6, "3"));
        edges.of(TERMS, "4 GRANDAUNT (g, 103; an AUNT)", due -> kind(due, "\u0067", 4, 1, "14"));
        edges.of(TERMS, "5 BISHOP (i, 105; a BRIDE)", due -> kind(due, "\u0069", 5, 12, "35"));
    }

    private static void sorts(Edges edges) {
        edges.of(TERMS, "SORTS are 0 HAND (h), 1 CHEEK (c), 2 TRUE (t)", due -> {
            KissClearing x = Due.village("pp x01h1 x01c1 x01t1");
            for (int i = 0; i < 3; i++) {
                due.tells(x, "draft(" + i + ", 2)", x.draft(i, 2), 1, i);
            }
            due.is("owe(10, 1)", x.owe(10, 1), 3);
            due.is("owe(11, 1)", x.owe(11, 1), 4);
            due.is("owe(12, 1)", x.owe(12, 1), 5);
            due.refuses(x, "owe(13, 1)", () -> x.owe(13, 1), Due.BAD);
            for (int i = 3; i < 6; i++) {
                due.tells(x, "draft(" + i + ", 2)", x.draft(i, 2), 1, i - 3);
            }
        });
        edges.of(TERMS, "a HAND counts 1, a CHEEK 2, a TRUE one 3", due -> {
            KissClearing x = Due.village("pppp x01h9 x02c9 x03t9");
            due.tells(x, "owing of 0", x.person(0, 1), 1, 9 + 18 + 27);
            due.tells(x, "owed of 1", x.person(1, 2), 1, 9);
            due.tells(x, "owed of 2", x.person(2, 2), 1, 18);
            due.tells(x, "owed of 3", x.person(3, 2), 1, 27);
        });
    }

    private static void openDrafts(Edges edges) {
        edges.of(TERMS, "A DRAFT is OPEN, if it has KISSES (0 behind having been paid, cleared, gone sour)", due -> {
            KissClearing x = Due.village("ppp x01h1 x12h1 x20h1");
            due.is("open ones", x.count(3), 3);
            x.meet(0, 1);
            due.kisses(x, "when one is paid", 0, 1, 1);
            due.is("open ones when one is paid", x.count(3), 2);
            x.undo(0);
            Due.fill(x, 0, 0, 1, 2);
            x.clear(0);
            due.kisses(x, "when all are cleared", 0, 0, 0);
            due.is("open ones when all are cleared", x.count(3), 0);
            x.undo(0);
            for (int i = 0; i < 4; i++) {
                x.week();
            }
            due.kisses(x, "when all went sour", 0, 0, 0);
            due.is("open ones when all went sour", x.count(3), 0);
            due.is("drafts there are yet", x.count(1), 3);
        });
        edges.of(TERMS, "It is 0 WEEKS old at first", due -> {
            KissClearing x = Due.village("pp x01h1");
            due.tells(x, "weeks by a text", x.draft(0, 4), 1, 0);
            x.week();
            x.owe(10, 1);
            due.tells(x, "weeks of one that came", x.draft(1, 4), 1, 0);
            x.week();
            x.undo(1);
            x.owe(10, 1);
            due.tells(x, "weeks of one that came behind undo()", x.draft(1, 4), 1, 0);
        });
        edges.of(TERMS, "DRAFTS that come later have the next numbers", due -> {
            KissClearing x = Due.village("ppp x01h1 x01h1");
            x.meet(0, 1);
            due.is("owe(120, 5)", x.owe(120, 5), 2);
            due.is("owe(200, 6)", x.owe(200, 6), 3);
            due.kisses(x, "by their numbers", 0, 0, 5, 6);
        });
    }

    private static void meetings(Edges edges) {
        edges.of(TERMS, "2 What is done: TWO MEET: of HANDS, of CHEEKS (not of TRUE ones)", due -> {
            KissClearing x = Due.village("ss x01h5 x10h2 x01c1 x10c4 x01t3 x10t3");
            due.tells(x, "meet(0, 1) of sailors: no true ones are netted", x.meet(0, 1), 0, 2 + 1);
            due.kisses(x, "behind it", 3, 0, 0, 3, 3, 3);
        });
        edges.of(TERMS, "DRAFTS of one on the other and back are lessened by as many KISSES each way as the lesser of both sums", due -> {
            KissClearing x = Due.village("sss x01h5 x10h5 x12h9 x21h1 x02c3 x21c9");
            due.tells(x, "meet(0, 1), just even", x.meet(0, 1), 0, 5);
            due.tells(x, "meet(2, 1)", x.meet(2, 1), 0, 1);
            due.tells(x, "meet(0, 2), one way alone", x.meet(0, 2), 0, 0);
            due.kisses(x, "behind these", 0, 0, 8, 0, 3, 9);
        });
        edges.of(TERMS, "DRAFTS by their numbers", due -> {
            KissClearing x = Due.village("ss x01h2 x10h4 x01h5 x10h1 x01h3 x10h1");
            due.tells(x, "meet(0, 1)", x.meet(0, 1), 0, 6);
            due.kisses(x, "behind it: the first ones first", 0, 0, 1, 0, 3, 0);
            KissClearing y = Due.village("ss x01h2 x01h2 x01h2 x10h3");
            due.tells(y, "meet(1, 0)", y.meet(1, 0), 0, 3);
            due.kisses(y, "behind it: the first ones first", 0, 1, 2, 0);
        });
        edges.of(TERMS, "then what is left between the two of all SORTS, but what a SAILOR owes, is paid (0 then)", due -> {
            KissClearing x = Due.village("sp x01h5 x10h2 x01c1 x10c4 x01t3 x10t9");
            due.tells(x, "meet(0, 1)", x.meet(0, 1), 3 + 9, 2 + 1);
            due.kisses(x, "behind it", 3, 0, 0, 0, 3, 0);
            KissClearing y = Due.village("gbip x01h5 x10c4 x01t3 x02h1 x32h1");
            due.tells(y, "meet(0, 1) of no sailors", y.meet(0, 1), 12, 0);
            due.kisses(y, "behind it, others stay", 0, 0, 0, 1, 1);
        });
    }

    private static void clears(Due due, KissClearing x, int want, int... numbers) {
        Due.fill(x, 5, numbers);
        String call = "clear of " + Arrays.toString(numbers);
        if (want < 0) {
            due.refuses(x, call, () -> x.clear(5), want);
        } else {
            due.is(call, x.clear(5), want);
        }
    }

    private static void ringsCleared(Edges edges) {
        edges.of(TERMS, "A RING IS CLEARED: OPEN DRAFTS of one SORT (no TRUE ones)", due -> {
            KissClearing x = Due.village("ppp x01h1 x12h1 x20h1 x20c1 x01t1 x12t1 x20t1 x01c1 x12c1");
            clears(due, x, Due.STATE, 0, 1, 3);
            clears(due, x, Due.STATE, 3, 0, 1);
            clears(due, x, Due.STATE, 4, 5, 6);
            clears(due, x, Due.STATE, 0, 1, 6);
            clears(due, x, 1, 7, 8, 3);
            clears(due, x, Due.STATE, 7, 8, 3);
            clears(due, x, 1, 0, 1, 2);
        });
        edges.of(TERMS, "each TO WHOM the next one owes, the last one to the first one's WHO", due -> {
            KissClearing x = Due.village("pppp x01h1 x12h1 x20h1 x23h1 x30h1");
            clears(due, x, Due.STATE, 1, 0, 2);
            clears(due, x, Due.STATE, 0, 2, 1);
            clears(due, x, Due.STATE, 0, 1, 3);
            clears(due, x, Due.STATE, 1, 3, 4);
            clears(due, x, 1, 4, 0, 1, 3);
        });
    }

    private static void ringsOfWhom(Edges edges) {
        edges.of(TERMS, "three at least", due -> {
            KissClearing x = Due.village("ppp x01h1 x10h1 x12h1 x20h1");
            clears(due, x, Due.STATE);
            clears(due, x, Due.STATE, 0);
            clears(due, x, Due.STATE, 0, 1);
            clears(due, x, 1, 0, 2, 3);
        });
        edges.of(TERMS, "no PERSON twice", due -> {
            KissClearing x = Due.village("pppp x01h5 x12h5 x20h5 x10h5 x02h5 x23h5 x30h5");
            clears(due, x, Due.STATE, 0, 3, 4, 2);
            clears(due, x, Due.STATE, 0, 1, 2, 0, 1, 2);
            clears(due, x, Due.STATE, 0, 1, 2, 4, 5, 6);
            clears(due, x, 5, 0, 1, 5, 6);
        });
        edges.of(TERMS, "each lessened by the least", due -> {
            KissClearing x = Due.village("pppp x01h9 x12h3 x20h4 x01h1 x23h3 x30h3");
            clears(due, x, 3, 2, 0, 1);
            due.kisses(x, "behind it", 6, 0, 1, 1, 3, 3);
            x.undo(0);
            clears(due, x, 3, 0, 1, 2);
            due.kisses(x, "behind it, the least one second", 6, 0, 1, 1, 3, 3);
            x.undo(0);
            clears(due, x, 3, 1, 2, 0);
            due.kisses(x, "behind it, the least one first", 6, 0, 1, 1, 3, 3);
        });
    }

    private static void endorsed(Edges edges) {
        edges.of(TERMS, "A DRAFT IS ENDORSED: TO WHOM becomes another PERSON (not WHO)", due -> {
            KissClearing x = Due.village("ppp x01c5");
            due.refuses(x, "endorse(0, 0)", () -> x.endorse(0, 0), Due.BAD);
            due.is("endorse(0, 2)", x.endorse(0, 2), 1);
            int[] wants = {0, 2, 1, 5, 0, 1};
            for (int what = 0; what < 6; what++) {
                due.tells(x, "draft(0, " + what + ")", x.draft(0, what), 1, wants[what]);
            }
        });
        edges.of(TERMS, "twice at most each", due -> {
            KissClearing x = Due.village("ppp x01c5 x10c5");
            due.is("endorse(0, 2)", x.endorse(0, 2), 1);
            due.is("endorse(0, 1)", x.endorse(0, 1), 2);
            due.refuses(x, "endorse(0, 2), a third time", () -> x.endorse(0, 2), Due.STATE);
            due.is("endorse(1, 2), of each", x.endorse(1, 2), 1);
            due.is("endorse(1, 0), of each", x.endorse(1, 0), 2);
            due.refuses(x, "endorse(1, 2), a third time", () -> x.endorse(1, 2), Due.STATE);
        });
    }

    private static void weeks(Edges edges) {
        edges.of(TERMS, "A WEEK goes by: OPEN DRAFTS are a WEEK older", due -> {
            KissClearing x = Due.village("ppp x01h1 x12t1 x20c1");
            x.meet(0, 1);
            x.week();
            int[] wants = {0, 1, 1};
            for (int i = 0; i < 3; i++) {
                due.tells(x, "weeks of draft " + i, x.draft(i, 4), 1, wants[i]);
            }
        });
        edges.of(TERMS, "those that an AUNT is owed (a GRANDAUNT, too) have 1 KISS more (a GRANDAUNT 2 more)", due -> {
            KissClearing x = Due.village("pasbgi x51h1 x54h1 x50h1 x52h1 x53h1 x45h1 x15c1 x14t9 x41c9 x01h1");
            x.meet(0, 1);
            x.week();
            due.kisses(x, "behind a week", 2, 3, 1, 1, 1, 1, 1, 11, 10, 0);
            x.endorse(2, 4);
            x.endorse(0, 0);
            x.week();
            due.kisses(x, "behind a second week, endorsed", 2, 5, 3, 1, 1, 1, 1, 13, 11, 0);
        });
        edges.of(TERMS, "99 at most", due -> {
            // 9 and twice 40 is the most that a draft can come to, so the limit itself is beyond what any calls reach.
            KissClearing x = Due.village("gg x01t9 x10t9 x01t1");
            for (int i = 0; i < 40; i++) {
                x.week();
            }
            due.kisses(x, "behind 40 weeks", 89, 89, 81);
            due.refuses(x, "one week more", x::week, Due.FULL);
        });
    }

    private static void weeksGoneSour(Edges edges) {
        edges.of(TERMS, "then those that are 4 WEEKS old or more and not TRUE go sour (0 then)", due -> {
            KissClearing x = Due.village("pg x01h1 x01c1 x01t1 x10h5 x10c6 x10t7");
            for (int i = 1; i <= 3; i++) {
                due.is("week " + i, x.week(), 0);
            }
            due.kisses(x, "behind three weeks", 7, 7, 7, 5, 6, 7);
            x.owe(100, 4);
            due.is("week 4: they grow, then go sour", x.week(), 9 + 9 + 5 + 6);
            due.kisses(x, "behind four weeks", 0, 0, 9, 0, 0, 7, 4);
            due.tells(x, "weeks of what went sour", x.draft(0, 4), 1, 4);
            due.is("week 5", x.week(), 0);
            due.is("week 6", x.week(), 0);
            due.is("week 7: that came behind week 3", x.week(), 4);
            due.kisses(x, "behind seven weeks", 0, 0, 15, 0, 0, 7, 0);
            KissClearing y = Due.village("ppp x01h5");
            y.week();
            y.week();
            y.week();
            y.endorse(0, 2);
            due.is("week 4 of an endorsed one, as old as ahead", y.week(), 5);
        });
    }

    private static void deeds(Edges edges) {
        edges.of(TERMS, "A DRAFT comes. These are DEEDS 0, 1, ..", due -> {
            KissClearing x = Due.village("pppp x01h1 x12h1 x20h1");
            Due.fill(x, 0, 0, 1, 2);
            x.meet(0, 3);
            due.is("a meeting is one", x.count(2), 1);
            x.clear(0);
            due.is("a ring cleared is one", x.count(2), 2);
            x.owe(130, 1);
            due.is("a draft that comes is one", x.count(2), 3);
            x.endorse(3, 2);
            due.is("a draft endorsed is one", x.count(2), 4);
            x.week();
            due.is("a week is one", x.count(2), 5);
            x.lots(3, 1);
            due.is("meetings by lots are", x.count(2), 8);
            x.keep(0);
            x.ring(0, 1);
            x.left(0);
            x.pairs();
            x.on(0);
            due.is("nothing else is", x.count(2), 8);
            due.is("undo(7)", x.undo(7), 1);
        });
        edges.of(TERMS, "(40 at most)", due -> {
            KissClearing x = Due.full(Due.village("pppp x01h1 x12h1 x20h1"), 0, 3);
            Due.fill(x, 0, 0, 1, 2);
            due.is("deeds", x.count(2), 40);
            due.refuses(x, "meet(0, 1)", () -> x.meet(0, 1), Due.FULL);
            due.refuses(x, "clear(0)", () -> x.clear(0), Due.FULL);
            due.refuses(x, "owe(10, 1)", () -> x.owe(10, 1), Due.FULL);
            due.refuses(x, "endorse(0, 2)", () -> x.endorse(0, 2), Due.FULL);
            due.refuses(x, "week()", x::week, Due.FULL);
            due.refuses(x, "lots(1, 1)", () -> x.lots(1, 1), Due.FULL);
            for (int i = 0; i < 6; i++) {
                x.undo(39);
                int done = i == 0 ? x.meet(0, 1) : i == 1 ? x.clear(0) : i == 2 ? x.owe(10, 1)
                        : i == 3 ? x.endorse(0, 2) : i == 4 ? x.week() : x.lots(1, 1);
                due.is("the fortieth, by manner " + i, done >= 0 ? x.count(2) : done, 40);
            }
        });
    }

    private static void owing(Edges edges) {
        edges.of(TERMS, "OWING of a PERSON is all that OPEN DRAFTS count of which it is WHO; OWED that of which it is TO WHOM", due -> {
            KissClearing x = Due.village("ppp x01h9 x01c9 x02t9 x10t1");
            due.tells(x, "owing of 0", x.person(0, 1), 1, 9 + 18 + 27);
            due.tells(x, "owed of 0", x.person(0, 2), 1, 3);
            due.tells(x, "owing of 2", x.person(2, 1), 1, 0);
            due.tells(x, "owed of 2", x.person(2, 2), 1, 27);
            x.endorse(2, 1);
            due.tells(x, "owed of 2, endorsed", x.person(2, 2), 1, 0);
            due.tells(x, "owed of 1, endorsed", x.person(1, 2), 1, 9 + 18 + 27);
            x.meet(0, 1);
            due.tells(x, "owing of 0, paid", x.person(0, 1), 1, 0);
            due.tells(x, "owed of 1, paid", x.person(1, 2), 1, 0);
        });
        edges.of(TERMS, "RESERVE is 1, of a SAILOR 0, of a BRIDE 6, of a BISHOP twice that", due -> {
            String letters = "pasbgi";
            int[] reserves = {1, 1, 0, 6, 1, 12};
            for (int kind = 0; kind < 6; kind++) {
                KissClearing x = Due.village("p" + letters.charAt(kind));
                due.tells(x, "reserve of kind " + kind, x.person(1, 3), 1, reserves[kind]);
                for (int i = 0; i < reserves[kind]; i += 3) {
                    x.owe(100, Math.min(3, reserves[kind] - i));
                }
                due.is("kind " + kind + " owes just its reserve", x.falls(0), 0);
                x.owe(100, 1);
                due.is("kind " + kind + " owes one more", x.falls(0), 2);
            }
        });
    }

    private static void falling(Edges edges) {
        edges.of(TERMS, "If a PERSON BOUNCES, nothing that it owes counts", due -> {
            KissClearing x = Due.village("ppp x01h5 x12h6 x21h1 x10h9");
            due.is("falls(0): 1 is not paid by 0", x.falls(0), 2);
            KissClearing y = Due.village("sss x01h5 x12h5");
            due.is("falls(2): what is owed to the one who bounces counts", y.falls(2), 1 + 2);
        });
        edges.of(TERMS, "each other one then FALLS whose OWING is more than OWED (by those who did not BOUNCE or FALL) and RESERVE", due -> {
            KissClearing x = Due.village("ppp x10h5 x21h4");
            due.is("falls(0): OWING 5 is not more than OWED 4 and RESERVE 1, but 2 falls, and then 1", x.falls(0), 2 + 4);
            KissClearing y = Due.village("pbp x10h9 x21h3");
            due.is("falls(0): just 9, and 2 falls", y.falls(0), 2 + 4);
            KissClearing z = Due.village("ppi x10h9 x21h8");
            due.is("falls(0): just 9, and 2 stands", z.falls(0), 0);
            z.owe(100, 1);
            due.is("falls(0): one more", z.falls(0), 2);
        });
        edges.of(TERMS, "and so on, till none falls more", due -> {
            KissClearing x = Due.village("pppppp x54h1 x43h2 x32h3 x21h4 x10h5");
            due.is("falls(5): four after another", x.falls(5), 2 + 4 + 8 + 16);
            due.is("falls(4)", x.falls(4), 2 + 4 + 8);
            due.is("falls(2)", x.falls(2), 2);
            due.is("falls(1)", x.falls(1), 0);
            KissClearing y = Due.village("pppbpp x54h1 x43h2 x32h3 x21h4 x10h5");
            due.is("falls(5), till a bride stands", y.falls(5), 16);
        });
    }
}
