/** Promises 12 to 14: person, draft, mark. */
public final class PersonsTest {
    private static final Due due = new Due();

    public static void main(String[] args) {
        person();
        personRefused();
        draft();
        markAunts();
        markSailors();
        markBrides();
        markBishops();
        markRefused();
        due.end();
    }

    private static void person() {
        KissClearing x = Due.village("pasbgi x01h5 x01c4 x01t3 x02h1 x10c2");
        int[] reserves = {1, 1, 0, 6, 1, 12};
        for (int p = 0; p < 6; p++) {
            due.tells(x, "kind of " + p, x.person(p, 0), 1, p);
            due.tells(x, "reserve of " + p, x.person(p, 3), 1, reserves[p]);
        }
        due.tells(x, "owing of 0", x.person(0, 1), 1, 5 + 8 + 9 + 1);
        due.tells(x, "owed of 0", x.person(0, 2), 1, 4);
        due.tells(x, "owing of 1", x.person(1, 1), 1, 4);
        due.tells(x, "owed of 1", x.person(1, 2), 1, 22);
        due.tells(x, "to how many others 0 owes", x.person(0, 4), 1, 2);
        due.tells(x, "to how many others 5 owes", x.person(5, 4), 1, 0);
        x.meet(0, 2);
        due.tells(x, "to how many others 0 owes, when one is paid", x.person(0, 4), 1, 1);
    }

    private static void personRefused() {
        KissClearing x = Due.village("pp");
        due.refuses(x, "person(2, 0)", () -> x.person(2, 0), Due.BAD);
        due.refuses(x, "person(-1, 0)", () -> x.person(-1, 0), Due.BAD);
        due.refuses(x, "person(0, 5)", () -> x.person(0, 5), Due.BAD);
        due.refuses(x, "person(0, -1)", () -> x.person(0, -1), Due.BAD);
        KissClearing none = new KissClearing();
        due.refuses(none, "person(0, 0) of no persons", () -> none.person(0, 0), Due.BAD);
    }

    private static void draft() {
        KissClearing x = Due.village("apg x20t7");
        x.week();
        x.endorse(0, 1);
        int[] wants = {2, 1, 2, 8, 1, 1};
        for (int what = 0; what < 6; what++) {
            due.tells(x, "draft(0, " + what + ")", x.draft(0, what), 1, wants[what]);
        }
        due.refuses(x, "draft(1, 0)", () -> x.draft(1, 0), Due.BAD);
        due.refuses(x, "draft(-1, 0)", () -> x.draft(-1, 0), Due.BAD);
        due.refuses(x, "draft(0, 6)", () -> x.draft(0, 6), Due.BAD);
        due.refuses(x, "draft(0, -1)", () -> x.draft(0, -1), Due.BAD);
    }

    private static void markAunts() {
        KissClearing x = Due.village("apg x10h9 x10t9 x01h1 x12h2 x12c2 x12t2");
        due.is("mark of an aunt", x.mark(0, 1), 2);
        due.is("mark of a grandaunt as an aunt", x.mark(2, 1), 6);
        due.is("mark of a grandaunt", x.mark(2, 4), 0);
        x.week();
        x.week();
        due.is("mark of a grandaunt behind two weeks", x.mark(2, 4), 0);
        x.week();
        due.is("mark of a grandaunt behind three weeks: not the true one", x.mark(2, 4), 2);
        x.owe(121, 1);
        due.is("mark of a grandaunt: not the new one", x.mark(2, 4), 2);
        x.endorse(5, 0);
        due.is("mark of a grandaunt without the true one", x.mark(2, 4), 2);
        x.endorse(3, 0);
        due.is("mark of a grandaunt: the cheek", x.mark(2, 4), 1);
        x.meet(1, 2);
        due.is("mark of a grandaunt who was paid", x.mark(2, 4), 0);
        due.is("mark of a grandaunt who was paid, as an aunt", x.mark(2, 1), 0);
        due.finds(x, "mark of an aunt as a grandaunt", () -> x.mark(0, 4), Due.UNLIKE);
    }

    private static void markSailors() {
        KissClearing x = Due.village("sp x01h1 x01t1 x10c5");
        due.is("mark of a sailor", x.mark(0, 2), 2);
        x.meet(0, 1);
        due.is("mark of a sailor who does not pay", x.mark(0, 2), 2);
        x.week();
        x.week();
        x.week();
        x.week();
        due.is("mark of a sailor whose hand went sour", x.mark(0, 2), 1);
    }

    private static void markBrides() {
        KissClearing x = Due.village("bip x01t3 x20h2 x10c1");
        due.is("mark of a bride", x.mark(0, 3), 6 + 2 + 2 - 9);
        due.is("mark of a bishop as a bride", x.mark(1, 3), 12 + 9 - 2);
        x.owe(10, 1);
        due.is("mark of a bride, just none", x.mark(0, 3), 0);
        x.owe(10, 9);
        due.is("mark of a bride, not below 0", x.mark(0, 3), 0);
    }

    private static void markBishops() {
        KissClearing x = Due.village("ippi x01h1 x12h1 x20h1 x20h2 x01c1 x12c1 x20c1 x01t1 x12t1 x20t1");
        due.is("mark of a bishop in three rings", x.mark(0, 5), 3);
        due.is("mark of a bishop in none", x.mark(3, 5), 0);
        due.finds(x, "mark of a person as a bishop", () -> x.mark(1, 5), Due.UNLIKE);
        due.is("asked() behind mark()", x.asked(), 0);
    }

    private static void markRefused() {
        String[] fitting = {"ag", "s", "bi", "g", "i"};
        for (int p = 0; p < 6; p++) {
            KissClearing x = Due.village("pasbgi");
            for (int kind = 1; kind <= 5; kind++) {
                int person = p;
                int wanted = kind;
                if (fitting[kind - 1].indexOf("pasbgi".charAt(p)) >= 0) {
                    due.is("mark(" + p + ", " + kind + ")", x.mark(p, kind) >= 0 ? 1 : 0, 1);
                } else {
                    due.finds(x, "mark(" + p + ", " + kind + ")", () -> x.mark(person, wanted), Due.UNLIKE);
                }
            }
        }
        KissClearing x = Due.village("pasbgi");
        due.refuses(x, "mark(0, 0)", () -> x.mark(0, 0), Due.BAD);
        due.refuses(x, "mark(0, 6)", () -> x.mark(0, 6), Due.BAD);
        due.refuses(x, "mark(0, -1)", () -> x.mark(0, -1), Due.BAD);
        due.refuses(x, "mark(6, 1)", () -> x.mark(6, 1), Due.BAD);
        due.refuses(x, "mark(-1, 1)", () -> x.mark(-1, 1), Due.BAD);
    }
}
