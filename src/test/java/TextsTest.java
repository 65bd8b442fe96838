/** Promises 8 to 11: text, put, fault, village. */
public final class TextsTest {
    private static final Due due = new Due();

    public static void main(String[] args) {
        text();
        put();
        faultless();
        faults();
        faultRefused();
        village();
        villageAnew();
        villageRefused();
        due.end();
    }

    private static void text() {
        KissClearing x = new KissClearing();
        due.is("text(0, 0)", x.text(0, 0), 0);
        due.is("text(3, 80)", x.text(3, 80), 80);
        due.is("count(7)", x.count(7), 2);
        due.is("put(3, 79, 65)", x.put(3, 79, 65), 1032);
        due.is("text(3, 80) again", x.text(3, 80), 80);
        due.is("put(3, 79, 65) anew", x.put(3, 79, 65), 1032);
        due.refuses(x, "text(3, 81)", () -> x.text(3, 81), Due.BAD);
        due.refuses(x, "text(4, 1)", () -> x.text(4, 1), Due.BAD);
        due.refuses(x, "text(-1, -1): BAD is ahead of SIZE", () -> x.text(-1, -1), Due.BAD);
        due.finds(x, "text(3, -1)", () -> x.text(3, -1), Due.SIZE);
        due.finds(x, "text(1, MIN)", () -> x.text(1, Integer.MIN_VALUE), Due.SIZE);
    }

    private static void put() {
        KissClearing x = new KissClearing();
        x.text(1, 2);
        due.is("put(1, 0, 127)", x.put(1, 0, 127), 1032);
        due.is("put(1, 0, 128)", x.put(1, 0, 128), 1127);
        due.is("put(1, 0, 255)", x.put(1, 0, 255), 872);
        due.is("put(1, 0, 256)", x.put(1, 0, 256), 999);
        due.is("put(1, 0, -129)", x.put(1, 0, -129), 1000);
        due.is("put(1, 0, 0)", x.put(1, 0, 0), 1127);
        due.is("asked() behind put()", x.asked(), 0);
        due.refuses(x, "put(4, 0, 1)", () -> x.put(4, 0, 1), Due.BAD);
        due.refuses(x, "put(-1, 0, 1)", () -> x.put(-1, 0, 1), Due.BAD);
        due.finds(x, "put(0, 9, 1)", () -> x.put(0, 9, 1), Due.NOTHING);
        due.finds(x, "put(1, 2, 1)", () -> x.put(1, 2, 1), Due.BEYOND);
        due.finds(x, "put(1, -1, 1)", () -> x.put(1, -1, 1), Due.BEYOND);
    }

    private static void fault(String text, int want) {
        KissClearing x = new KissClearing();
        Due.write(x, 0, text);
        due.is("fault of '" + text + "'", x.fault(0), want);
        due.is("village of '" + text + "'", x.village(0) > 0 ? 1 : 0, want == Due.NONE ? 1 : 0);
    }

    private static void faultless() {
        fault("pp", Due.NONE);
        fault("  p   a ", Due.NONE);
        fault("pasbgi", Due.NONE);
        fault("ppx01h1", Due.NONE);
        fault(" p p x01h1 x10c9  x01t5 ", Due.NONE);
        fault("ppx01h1x01h1x01h1x01h1x01h1x01h1x01h1x01h1x01h1x01h1x01h1x01h1", Due.NONE);
        fault("pasbgix54t9", Due.NONE);
    }

    private static void faults() {
        fault("", 0);
        fault("   ", 3);
        fault("p", 1);
        fault("p  ", 3);
        fault("x01h1", 0);
        fault("p x01h1", 2);
        fault("pq", 1);
        fault("pP", 1);
        fault("pp1", 2);
        fault("pasbgip", 6);
        fault("pasbgi p", 7);
        fault("ppx", 3);
        fault("ppx0", 4);
        fault("ppx01", 5);
        fault("ppx01h", 6);
        fault("ppx 01h1", 3);
        fault("ppx2", 3);
        fault("ppx02h1", 4);
        fault("ppx00h1", 4);
        fault("ppx:1h1", 3);
        fault("ppx/1h1", 3);
        fault("ppx01x1", 5);
        fault("ppx01H1", 5);
        fault("ppx01h0", 6);
        fault("ppx01h:", 6);
        fault("ppx01h ", 6);
        fault("ppx01h12", 7);
        fault("ppx01h1p", 7);
        fault("ppx01h1 a", 8);
        fault("ppx01h1h", 7);
        fault("ppx01h1x01h1x01h1x01h1x01h1x01h1x01h1x01h1x01h1x01h1x01h1x01h1 x01h1", 63);
        fault("pp\u00ff", 2);
    }

    private static void faultRefused() {
        KissClearing x = new KissClearing();
        due.refuses(x, "fault(4)", () -> x.fault(4), Due.BAD);
        due.refuses(x, "fault(-1)", () -> x.fault(-1), Due.BAD);
        due.finds(x, "fault(0)", () -> x.fault(0), Due.NOTHING);
        x.text(0, 2);
        long digest = x.digest();
        due.is("fault of two blanks", x.fault(0), 2);
        due.is("digest() behind fault()", x.digest(), digest);
        due.is("finding() behind fault()", x.finding(), Due.NOTHING);
    }

    private static void village() {
        KissClearing x = new KissClearing();
        Due.write(x, 2, "  pas bgi x01h5  x52t9x30c1 ");
        due.is("village(2)", x.village(2), 6);
        for (int p = 0; p < 6; p++) {
            due.tells(x, "person(" + p + ", 0)", x.person(p, 0), 1, p);
        }
        int[][] drafts = {{0, 1, 0, 5, 0, 0}, {5, 2, 2, 9, 0, 0}, {3, 0, 1, 1, 0, 0}};
        due.is("count(1)", x.count(1), 3);
        for (int i = 0; i < drafts.length; i++) {
            for (int what = 0; what < 6; what++) {
                due.tells(x, "draft(" + i + ", " + what + ")", x.draft(i, what), 1, drafts[i][what]);
            }
        }
        due.is("count(2)", x.count(2), 0);
        due.is("count(7): the text stays", x.count(7), 1);
    }

    private static void villageAnew() {
        KissClearing x = Due.village("ppx01h5");
        x.week();
        x.keep(0);
        x.keep(2);
        x.row(0, 3);
        x.lay(0, 0, 8);
        x.lay(0, 0, 9);
        x.person(0, 1);
        due.is("asked()", x.asked(), 5);
        Due.write(x, 0, "aaa");
        due.is("village(0)", x.village(0), 3);
        due.is("persons", x.count(0), 3);
        due.is("drafts", x.count(1), 0);
        due.is("deeds", x.count(2), 0);
        due.is("kept ones", x.count(8), 0);
        due.is("rows", x.count(6), 1);
        due.is("asked() stays", x.asked(), 5);
        due.finds(x, "on(0)", () -> x.on(0), Due.NOTHING);
        due.finds(x, "on(2)", () -> x.on(2), Due.NOTHING);
    }

    private static void villageRefused() {
        KissClearing x = Due.village("ppx01h5");
        x.week();
        x.keep(1);
        due.refuses(x, "village(4)", () -> x.village(4), Due.BAD);
        due.refuses(x, "village(-1)", () -> x.village(-1), Due.BAD);
        due.finds(x, "village(0)", () -> x.village(0), Due.NOTHING);
        Due.write(x, 1, "aaax01h");
        due.refuses(x, "village of a fault", () -> x.village(1), Due.STATE);
        due.is("on(1) behind a refused village", x.on(1), 1);
    }
}
