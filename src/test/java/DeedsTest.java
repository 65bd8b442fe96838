/** Promises 15 to 22: owe, meet, clear, endorse, week, undo, keep, on. */
public final class DeedsTest {
    private static final Due due = new Due();

    public static void main(String[] args) {
        owe();
        oweRefused();
        meet();
        meetOfSailors();
        meetByNumbers();
        meetRefused();
        clear();
        clearRefused();
        clearInItsOrder();
        endorse();
        endorseRefused();
        week();
        weekRefused();
        undo();
        undoOfNothing();
        undoneWithoutTrace();
        keepAndOn();
        keepOfManyDrafts();
        keepRefused();
        due.end();
    }

    /** Kisses of all drafts. */
    private static void kisses(KissClearing x, String when, int... wants) {
        due.is("drafts " + when, x.count(1), wants.length);
        for (int i = 0; i < wants.length; i++) {
            x.draft(i, 3);
            due.is("kisses of draft " + i + " " + when, x.asked(), wants[i]);
        }
    }

    private static void fillDeeds(KissClearing x) {
        for (int i = x.count(2); i < 40; i++) {
            due.is("deed " + i, x.week(), 0);
        }
    }

    private static void owe() {
        KissClearing x = Due.village("pas x01h5");
        due.is("owe(212, 9)", x.owe(212, 9), 1);
        int[] wants = {2, 1, 2, 9, 0, 0};
        for (int what = 0; what < 6; what++) {
            due.tells(x, "draft(1, " + what + ")", x.draft(1, what), 1, wants[what]);
        }
        due.is("owe(10, 1): one of 0 on 1", x.owe(10, 1), 2);
        due.is("deeds", x.count(2), 2);
        due.is("between(0, 1, 0)", x.between(0, 1, 0), 6);
    }

    private static void oweRefused() {
        KissClearing x = Due.village("pas");
        int[] bad = {0, 110, 220, 30, 300, 13, 19, -10, -1, 1010, 2147483647, -2147483648};
        for (int told : bad) {
            due.refuses(x, "owe(" + told + ", 1)", () -> x.owe(told, 1), Due.BAD);
        }
        due.refuses(x, "owe(10, 0)", () -> x.owe(10, 0), Due.BAD);
        due.refuses(x, "owe(10, 10)", () -> x.owe(10, 10), Due.BAD);
        due.refuses(x, "owe(10, -1)", () -> x.owe(10, -1), Due.BAD);
        for (int i = 0; i < 12; i++) {
            due.is("owe(10, 1)", x.owe(10, 1), i);
        }
        due.refuses(x, "a thirteenth draft", () -> x.owe(10, 1), Due.FULL);
        due.refuses(x, "a thirteenth draft that is none: BAD is ahead of FULL", () -> x.owe(0, 1), Due.BAD);
        KissClearing y = Due.village("pp");
        fillDeeds(y);
        due.refuses(y, "owe as deed 41", () -> y.owe(10, 1), Due.FULL);
        KissClearing none = new KissClearing();
        due.refuses(none, "owe(10, 1) of no persons", () -> none.owe(10, 1), Due.BAD);
    }

    private static void meet() {
        KissClearing x = Due.village("ppp x01h5 x10h3 x01c2 x10c6 x01t4 x10t3 x12h7");
        due.tells(x, "meet(0, 1)", x.meet(0, 1), 2 + 4 + 4 + 3, 3 + 2);
        kisses(x, "behind the meeting", 0, 0, 0, 0, 0, 0, 7);
        due.tells(x, "meet(0, 1) again", x.meet(0, 1), 0, 0);
        due.is("deeds", x.count(2), 2);
        due.tells(x, "meet(2, 1)", x.meet(2, 1), 7, 0);
    }

    private static void meetOfSailors() {
        KissClearing x = Due.village("sps x01h5 x10h3 x01t4 x10t2 x01c1 x02h9 x20h4");
        due.tells(x, "meet(1, 0): the sailor does not pay", x.meet(1, 0), 2, 3);
        kisses(x, "that the sailor owes yet", 2, 0, 4, 0, 1, 9, 4);
        due.tells(x, "meet of two sailors", x.meet(0, 2), 0, 4);
        kisses(x, "behind two sailors", 2, 0, 4, 0, 1, 5, 0);
    }

    private static void meetByNumbers() {
        KissClearing x = Due.village("ss x01h2 x10h4 x01h5 x10h1 x01h3 x10c9");
        due.tells(x, "meet(0, 1)", x.meet(0, 1), 0, 5);
        kisses(x, "lessened by their numbers", 0, 0, 2, 0, 3, 9);
    }

    private static void meetRefused() {
        KissClearing x = Due.village("pp x01h1");
        due.refuses(x, "meet(0, 0)", () -> x.meet(0, 0), Due.BAD);
        due.refuses(x, "meet(0, 2)", () -> x.meet(0, 2), Due.BAD);
        due.refuses(x, "meet(-1, 1)", () -> x.meet(-1, 1), Due.BAD);
        x.meet(0, 1);
        fillDeeds(x);
        due.refuses(x, "meet as deed 41", () -> x.meet(0, 1), Due.FULL);
        due.refuses(x, "meet(0, 0) as deed 41", () -> x.meet(0, 0), Due.BAD);
    }

    private static void clear() {
        KissClearing x = Due.village("ppppp x01h5 x12h3 x20h4 x23h9 x30h2 x01c1 x12c1 x20c1");
        Due.fill(x, 0, 1, 2, 0);
        due.is("clear of 1 2 0", x.clear(0), 3);
        kisses(x, "behind clear()", 2, 0, 1, 9, 2, 1, 1, 1);
        Due.fill(x, 0, 5, 6, 7);
        due.is("clear of cheeks", x.clear(0), 1);
        kisses(x, "behind the cheeks", 2, 0, 1, 9, 2, 0, 0, 0);
        due.is("deeds", x.count(2), 2);
        KissClearing six = Due.village("pppppp x01h9 x12h8 x23h7 x34h6 x45h5 x50h4");
        Due.fill(six, 0, 0, 1, 2, 3, 4, 5);
        due.is("clear of six", six.clear(0), 4);
    }

    private static void noRing(KissClearing x, int... numbers) {
        Due.fill(x, 0, numbers);
        due.refuses(x, "clear of " + java.util.Arrays.toString(numbers), () -> x.clear(0), Due.STATE);
    }

    private static void clearRefused() {
        KissClearing x = Due.village("pppp x01h5 x12h3 x20h4 x10h2 x20c4 x23h9 x32h1 x01t1 x12t1 x20t1");
        noRing(x);
        noRing(x, 0);
        noRing(x, 0, 3);
        noRing(x, 0, 1);
        noRing(x, 2, 1, 0);
        noRing(x, 0, 1, 4);
        noRing(x, 7, 8, 9);
        noRing(x, 0, 1, 5, 6, 2);
        noRing(x, 0, 1, 2, 0, 1, 2);
        noRing(x, 0, 0, 0);
        noRing(x, 0, 1, 5);
        noRing(x, new int[40]);
        Due.fill(x, 0, 0, 1, 2);
        due.is("clear(0)", x.clear(0), 3);
        due.refuses(x, "clear of a ring that was cleared", () -> x.clear(0), Due.STATE);
    }

    private static void clearInItsOrder() {
        KissClearing x = Due.village("ppp x01h5 x12h3 x20h4");
        due.refuses(x, "clear(6)", () -> x.clear(6), Due.BAD);
        due.refuses(x, "clear(-1)", () -> x.clear(-1), Due.BAD);
        due.finds(x, "clear of a missing row", () -> x.clear(0), Due.NOTHING);
        Due.fill(x, 0, 0, 3);
        due.finds(x, "clear of a number that is no draft, ahead of no ring", () -> x.clear(0), Due.UNLIKE);
        Due.fill(x, 0, 0, 1, -1);
        due.finds(x, "clear of -1", () -> x.clear(0), Due.UNLIKE);
        KissClearing y = Due.village("pppp x01h5 x12h3 x20h4");
        Due.fill(y, 0, 0, 1, 2);
        for (int i = 0; i < 40; i++) {
            y.meet(3, i % 3);
        }
        due.refuses(y, "clear as deed 41", () -> y.clear(0), Due.FULL);
        Due.fill(y, 1, 0, 1);
        due.refuses(y, "clear of no ring as deed 41: STATE is ahead of FULL", () -> y.clear(1), Due.STATE);
    }

    private static void endorse() {
        KissClearing x = Due.village("pppp x01h5");
        due.is("endorse(0, 2)", x.endorse(0, 2), 1);
        due.tells(x, "draft(0, 1)", x.draft(0, 1), 1, 2);
        due.is("endorse(0, 1)", x.endorse(0, 1), 2);
        due.tells(x, "draft(0, 5)", x.draft(0, 5), 1, 2);
        due.refuses(x, "a third time", () -> x.endorse(0, 3), Due.STATE);
        due.is("deeds", x.count(2), 2);
        due.is("undo(1)", x.undo(1), 1);
        due.is("endorse(0, 3)", x.endorse(0, 3), 2);
        due.tells(x, "draft(0, 1)", x.draft(0, 1), 1, 3);
    }

    private static void endorseRefused() {
        KissClearing x = Due.village("pppp x01h5");
        due.refuses(x, "endorse(1, 2)", () -> x.endorse(1, 2), Due.BAD);
        due.refuses(x, "endorse(-1, 2)", () -> x.endorse(-1, 2), Due.BAD);
        due.refuses(x, "endorse(0, 4)", () -> x.endorse(0, 4), Due.BAD);
        due.refuses(x, "endorse(0, -1)", () -> x.endorse(0, -1), Due.BAD);
        due.refuses(x, "endorse(0, 0): to WHO", () -> x.endorse(0, 0), Due.BAD);
        due.refuses(x, "endorse(0, 1): to whom it is owed", () -> x.endorse(0, 1), Due.STATE);
        for (int i = 0; i < 40; i++) {
            x.meet(2, 3);
        }
        due.refuses(x, "endorse as deed 41", () -> x.endorse(0, 2), Due.FULL);
        due.refuses(x, "endorse as deed 41, STATE ahead of FULL", () -> x.endorse(0, 1), Due.STATE);
        x.undo(0);
        x.meet(0, 1);
        due.refuses(x, "endorse of a paid one", () -> x.endorse(0, 2), Due.STATE);
        due.refuses(x, "endorse of a paid one to WHO", () -> x.endorse(0, 0), Due.BAD);
    }

    private static void week() {
        KissClearing x = Due.village("pag x01h5 x02c5 x10h5 x02t9 x20t1");
        due.is("week 1", x.week(), 0);
        kisses(x, "behind week 1", 6, 7, 5, 11, 1);
        x.week();
        x.owe(12, 1);
        due.is("week 3", x.week(), 0);
        kisses(x, "behind week 3", 8, 11, 5, 15, 1, 2);
        due.is("week 4", x.week(), 9 + 13 + 5);
        kisses(x, "behind week 4", 0, 0, 0, 17, 1, 3);
        due.tells(x, "how old what went sour is", x.draft(0, 4), 1, 4);
        due.is("week 5", x.week(), 0);
        due.tells(x, "how old what went sour is a week later", x.draft(0, 4), 1, 4);
        due.tells(x, "how old a true one is", x.draft(4, 4), 1, 5);
        for (int i = x.count(2); i < 40; i++) {
            x.week();
        }
        due.tells(x, "a grandaunt's true one behind 39 weeks", x.draft(3, 3), 1, 87);
        KissClearing y = Due.village("gg x01t9 x10t9 x01t8");
        for (int i = 0; i < 40; i++) {
            y.week();
        }
        kisses(y, "behind 40 weeks", 89, 89, 88);
        due.tells(y, "how old they are", y.draft(0, 4), 1, 40);
    }

    private static void weekRefused() {
        KissClearing none = new KissClearing();
        due.refuses(none, "week() of no persons", none::week, Due.STATE);
        KissClearing x = Due.village("pp");
        fillDeeds(x);
        due.refuses(x, "week as deed 41", x::week, Due.FULL);
    }

    private static void undo() {
        KissClearing x = Due.village("ppp x01h5 x12h3 x20h4");
        long[] digests = new long[8];
        Due.fill(x, 0, 0, 1, 2);
        digests[0] = x.digest();
        x.owe(11, 3);
        digests[1] = x.digest();
        x.week();
        digests[2] = x.digest();
        x.clear(0);
        digests[3] = x.digest();
        x.endorse(3, 2);
        digests[4] = x.digest();
        x.lots(2, 7);
        digests[6] = x.digest();
        x.meet(0, 2);
        due.refuses(x, "undo(8)", () -> x.undo(8), Due.BAD);
        due.refuses(x, "undo(-1)", () -> x.undo(-1), Due.BAD);
        due.is("undo(7)", x.undo(7), 0);
        due.is("undo(6)", x.undo(6), 1);
        due.is("digest() behind undo(6)", x.digest(), digests[6]);
        due.is("undo(4)", x.undo(4), 2);
        due.is("digest() behind undo(4)", x.digest(), digests[4]);
        for (int n = 3; n >= 1; n--) {
            due.is("undo(" + n + ")", x.undo(n), 1);
            due.is("digest() behind undo(" + n + ")", x.digest(), digests[n]);
        }
        due.is("undo(0): the draft that came goes", x.undo(0), 1);
        due.is("digest() behind undo(0)", x.digest(), digests[0]);
        due.is("drafts", x.count(1), 3);
        due.is("undo(0) again", x.undo(0), 0);
        KissClearing none = new KissClearing();
        due.is("undo(0) of no persons", none.undo(0), 0);
        due.refuses(none, "undo(1) of no persons", () -> none.undo(1), Due.BAD);
    }

    private static void undoOfNothing() {
        KissClearing x = Due.village("pp x01h5");
        x.week();
        x.week();
        x.undo(0);
        x.meet(0, 1);
        due.is("undo(1) of one deed", x.undo(1), 0);
        kisses(x, "behind an undo of nothing", 0);
        due.tells(x, "draft(0, 4)", x.draft(0, 4), 1, 0);
        x.undo(0);
        due.is("undo(0) of no deed", x.undo(0), 0);
        due.tells(x, "draft(0, 4)", x.draft(0, 4), 1, 0);
    }

    /** Drafts that came and went leave nothing that any call tells. */
    private static void undoneWithoutTrace() {
        String text = "gsip x01h1 x12h1 x20h1";
        KissClearing fresh = Due.village(text);
        KissClearing x = Due.village(text);
        int[] tolds = {130, 230, 310, 300, 20, 321, 12, 10, 200};
        for (int told : tolds) {
            x.owe(told, 9);
        }
        x.endorse(3, 0);
        x.week();
        x.week();
        x.week();
        x.undo(0);
        Due.fill(fresh, 0, 0, 0, 0, 0);
        Due.fill(x, 0, 0, 0, 0, 0);
        long[] wants = answers(fresh);
        long[] answers = answers(x);
        for (int i = 0; i < wants.length; i++) {
            due.is("answer " + i + " behind undo(0)", answers[i], wants[i]);
        }
        due.is("the next draft's number", x.owe(132, 9), 3);
        due.tells(x, "how old the next draft is", x.draft(3, 4), 1, 0);
        due.tells(x, "how often the next draft was endorsed", x.draft(3, 5), 1, 0);
    }

    private static long[] answers(KissClearing x) {
        long[] all = new long[120];
        int n = 0;
        for (int p = 0; p < 4; p++) {
            for (int kind = 1; kind <= 5; kind++) {
                all[n++] = x.mark(p, kind);
            }
            all[n++] = x.falls(p);
            all[n++] = x.saved(p, (p + 1) % 4);
            for (int q = 0; q < 4; q++) {
                all[n++] = x.trust(p, q);
                all[n++] = x.between(p, q, 0);
            }
        }
        for (int sort = 0; sort < 2; sort++) {
            all[n++] = x.all(sort);
            all[n++] = x.asked();
            all[n++] = x.net(sort);
            all[n++] = x.left(sort);
            all[n++] = x.asked();
            all[n++] = x.ring(sort, 1);
        }
        all[n++] = x.net(2);
        all[n++] = x.pairs();
        all[n++] = x.asked();
        all[n++] = x.rounds();
        all[n++] = x.mistletoe();
        all[n++] = x.asked();
        all[n++] = x.worst();
        all[n++] = x.asked();
        all[n++] = x.blushes(0);
        all[n++] = x.sure(0);
        all[n++] = x.digest();
        return all;
    }

    private static void keepOfManyDrafts() {
        String drafts = " x01t1 x12t2 x23t3 x34t4 x45t5 x50t6 x10t1 x21t2 x32t3 x43t4 x54t5 x05t6";
        KissClearing x = Due.village("agagag" + drafts);
        long[] digests = new long[6];
        for (int i = 0; i < 5; i++) {
            x.week();
        }
        x.keep(1);
        for (int i = 5; i >= 0; i--) {
            x.undo(i);
            x.keep(0);
            digests[i] = x.digest();
        }
        x.endorse(0, 5);
        x.lots(20, 3);
        due.is("on(1)", x.on(1), 5);
        for (int i = 5; i >= 0; i--) {
            due.is("undo(" + i + ")", x.undo(i), i == 5 ? 0 : 1);
            x.keep(0);
            due.is("digest() behind undo(" + i + ")", x.digest(), digests[i]);
        }
    }

    private static void keepAndOn() {
        KissClearing x = Due.village("ppp x01h5");
        due.is("keep(0)", x.keep(0), 0);
        x.week();
        x.owe(12, 3);
        due.is("keep(1)", x.keep(1), 2);
        due.is("kept ones", x.count(8), 2);
        long digest = x.digest();
        x.meet(0, 1);
        x.undo(1);
        x.week();
        due.is("on(1)", x.on(1), 2);
        due.is("digest() behind on(1)", x.digest(), digest);
        due.is("undo(1) behind on(1)", x.undo(1), 1);
        due.is("drafts", x.count(1), 1);
        due.is("on(0)", x.on(0), 0);
        due.tells(x, "draft(0, 4)", x.draft(0, 4), 1, 0);
        due.is("on(1) again", x.on(1), 2);
        due.is("drafts again", x.count(1), 2);
        due.is("keep(1) again", x.keep(1), 2);
        due.is("keep(2)", x.keep(2), 2);
        due.is("kept ones", x.count(8), 3);
        KissClearing y = Due.village("pp x01t5");
        fillDeeds(y);
        due.is("keep of 40 deeds", y.keep(2), 40);
        y.undo(3);
        due.is("on of 40 deeds", y.on(2), 40);
        due.tells(y, "draft(0, 4)", y.draft(0, 4), 1, 40);
        due.is("undo(39)", y.undo(39), 1);
        due.tells(y, "draft(0, 4)", y.draft(0, 4), 1, 39);
    }

    private static void keepRefused() {
        KissClearing none = new KissClearing();
        due.refuses(none, "keep(3)", () -> none.keep(3), Due.BAD);
        due.refuses(none, "keep(-1)", () -> none.keep(-1), Due.BAD);
        due.refuses(none, "keep(0) of no persons", () -> none.keep(0), Due.STATE);
        due.refuses(none, "on(3)", () -> none.on(3), Due.BAD);
        due.refuses(none, "on(-1)", () -> none.on(-1), Due.BAD);
        due.finds(none, "on(0)", () -> none.on(0), Due.NOTHING);
        KissClearing x = Due.village("pp");
        x.keep(1);
        due.finds(x, "on(0) with another one kept", () -> x.on(0), Due.NOTHING);
    }
}
