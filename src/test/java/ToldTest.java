/** Promises 40 to 46: asked, upper, lower, count, finding, findings, digest; and the constants. */
public final class ToldTest {
    private static final Due due = new Due();

    public static void main(String[] args) {
        constants();
        asked();
        chances();
        count();
        findings();
        digestOfNew();
        digestOfVillage();
        due.end();
    }

    private static void constants() {
        due.is("BAD", KissClearing.BAD, -1);
        due.is("FULL", KissClearing.FULL, -2);
        due.is("FINDING", KissClearing.FINDING, -3);
        due.is("STATE", KissClearing.STATE, -4);
        due.is("SPENT", KissClearing.SPENT, -6);
        due.is("NONE", KissClearing.NONE, -9);
    }

    /** Each call that tells, told, is left alone by each call that does not. */
    private static void asked() {
        KissClearing x = Due.village("abs x01h5 x12h4 x20h4 x20t1");
        Due.fill(x, 0, 7, 8, 9);
        due.is("asked() of lay()", x.asked(), 0);
        x.at(0, 1);
        due.is("asked() of at()", x.asked(), 8);
        x.lay(0, 1, 11);
        due.is("asked() of lay()", x.asked(), 8);
        x.mean(0);
        due.is("asked() of mean()", x.asked(), 9);
        x.person(1, 3);
        due.is("asked() of person()", x.asked(), 6);
        x.draft(0, 3);
        due.is("asked() of draft()", x.asked(), 5);
        x.all(0);
        due.is("asked() of all()", x.asked(), 12);
        x.left(0);
        due.is("asked() of left()", x.asked(), 1);
        x.pairs();
        due.is("asked() of pairs()", x.asked(), 9);
        x.mistletoe();
        due.is("asked() of mistletoe()", x.asked(), 6);
        x.worst();
        due.is("asked() of worst()", x.asked(), Integer.bitCount(x.falls(x.worst())));
        Due.fill(x, 1, 4, 0, 4);
        x.blushes(1);
        due.is("asked() of blushes()", x.asked(), 4);
        leavesAlone(x);
        x.meet(0, 1);
        due.is("asked() of meet()", x.asked(), 0);
    }

    private static void leavesAlone(KissClearing x) {
        x.row(2, 2);
        x.tear(2);
        x.copy(0, 0, 1, 0, 1);
        x.text(2, 3);
        x.put(2, 1, 3);
        x.fault(2);
        x.village(2);
        x.mark(0, 1);
        x.owe(10, 2);
        x.endorse(4, 2);
        x.week();
        x.keep(0);
        x.on(0);
        x.undo(0);
        x.between(0, 1, 0);
        x.ring(0, 2);
        x.clear(2);
        x.net(0);
        x.falls(0);
        x.saved(0, 1);
        x.rounds();
        x.gain(1);
        x.trust(0, 1);
        x.sure(0);
        x.odds();
        x.lots(1, 1);
        x.undo(0);
        x.count(0);
        x.digest();
        x.at(0, 40);
        x.person(9, 0);
        due.is("asked() behind all that do not tell", x.asked(), 4);
    }

    private static void chances() {
        KissClearing x = new KissClearing();
        due.is("upper() at first", x.upper(), 0);
        due.is("lower() at first", x.lower(), 1);
        x.odds();
        due.is("lower() behind a refused odds()", x.lower(), 1);
        KissClearing y = Due.village("ppp x01h2");
        y.odds();
        due.is("upper()", y.upper(), 1);
        due.is("lower()", y.lower(), 3);
        y.meet(0, 1);
        due.is("upper() till odds() is called again", y.upper(), 1);
        y.odds();
        due.is("upper() anew", y.upper(), 1);
        due.is("lower() anew", y.lower(), 1);
    }

    private static void count() {
        KissClearing x = Due.village("agapg x01h5 x12c4 x20t3");
        x.text(0, 0);
        x.row(5, 0);
        x.row(1, 4);
        x.row(0, 4);
        x.meet(0, 1);
        x.week();
        x.keep(2);
        int[] wants = {5, 3, 2, 2, 5 + 4, 4, 3, 2, 1};
        for (int what = 0; what < wants.length; what++) {
            due.is("count(" + what + ")", x.count(what), wants[what]);
        }
        due.refuses(x, "count(9)", () -> x.count(9), Due.BAD);
        due.refuses(x, "count(-1)", () -> x.count(-1), Due.BAD);
    }

    private static void findings() {
        KissClearing x = Due.village("pp");
        due.is("finding() before any", x.finding(), 0);
        x.at(0, 0);
        x.at(0, 0);
        due.is("finding()", x.finding(), Due.NOTHING);
        x.row(0, 0);
        x.at(0, 0);
        due.is("finding()", x.finding(), Due.BEYOND);
        x.mark(0, 3);
        due.is("finding()", x.finding(), Due.UNLIKE);
        x.mean(0);
        due.is("finding()", x.finding(), Due.NOUGHT);
        x.row(0, -1);
        due.is("finding()", x.finding(), Due.SIZE);
        x.row(9, -1);
        due.is("finding() behind BAD", x.finding(), Due.SIZE);
        int[] wants = {2, 1, 1, 1, 1};
        for (int f = 1; f <= 5; f++) {
            due.is("findings(" + f + ")", x.findings(f), wants[f - 1]);
        }
        due.is("findings(0)", x.findings(0), Due.BAD);
        due.is("findings(6)", x.findings(6), Due.BAD);
        due.is("findings(-1)", x.findings(-1), Due.BAD);
    }

    private static long mix(long h, long... values) {
        for (long v : values) {
            h = 31 * h + v;
        }
        return h;
    }

    private static void digestOfNew() {
        long h = mix(17, 0, 0, 0, 0, 0, 0, 0, 0, 0);
        h = mix(h, -1, -1, -1);
        h = mix(h, -1, -1, -1, -1, -1, -1);
        h = mix(h, -1, -1, -1, -1);
        due.is("digest() of a new object", new KissClearing().digest(), h);
    }

    private static void digestOfVillage() {
        KissClearing x = Due.village("gs x01c5 x10t2");
        x.week();
        x.keep(1);
        Due.fill(x, 4, 3, -1);
        x.text(0, 2);
        x.put(0, 1, 200);
        x.at(4, 0);
        long h = mix(17, 2, 2, 1, 2, 5 + 4, 1, 1, 2, 1);
        h = mix(h, 4, 10, 12, 1, 1);
        h = mix(h, 2, 12, 10, 0, 1);
        h = mix(h, 0, 1, 1, 5, 1, 0);
        h = mix(h, 1, 0, 2, 4, 1, 0);
        h = mix(h, -1, 1, -1);
        h = mix(h, -1, -1, -1, -1, 2, 3, -1, -1);
        h = mix(h, 2, 32, -56, -1, -1, 14);
        for (char sign : "gs x01c5 x10t2".toCharArray()) {
            h = mix(h, sign);
        }
        due.is("digest() of a village", x.digest(), h);
        due.is("asked() stays", x.asked(), 3);
    }
}
