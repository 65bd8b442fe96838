import java.util.ArrayList;
import java.util.List;

/** Promises 31 to 33: pairs, rounds, mistletoe. */
public final class MeetingsTest {
    private static final Due due = new Due();

    public static void main(String[] args) {
        pairs();
        rounds();
        roundsOfAllVillages();
        mistletoe();
        due.end();
    }

    private static void pairs() {
        KissClearing x = Due.village("ppsp x01h5 x10h3 x01t1 x02c4 x20c6 x31h1");
        long digest = x.digest();
        due.tells(x, "pairs()", x.pairs(), 3, 2 + 1 + 1);
        due.is("digest() behind pairs()", x.digest(), digest);
        x.meet(0, 1);
        due.tells(x, "pairs() behind a meeting", x.pairs(), 2, 1);
        x.meet(0, 2);
        due.tells(x, "pairs(), a sailor yet owes", x.pairs(), 2, 1);
        KissClearing none = new KissClearing();
        due.tells(none, "pairs() of no persons", none.pairs(), 0, 0);
    }

    private static void rounds() {
        due.is("rounds() of no persons", new KissClearing().rounds(), 0);
        due.is("rounds() of no drafts", Due.village("pp").rounds(), 0);
        due.is("rounds() of one pair", Due.village("pp x01h1 x10h2").rounds(), 1);
        due.is("rounds() of three in a ring", Due.village("ppp x01h1 x12h1 x20h1").rounds(), 3);
        due.is("rounds() of four in a ring", Due.village("pppp x01h1 x12h1 x23h1 x30h1").rounds(), 2);
        due.is("rounds() of five in a ring", Due.village("ppppp x01h1 x12h1 x23h1 x34h1 x40h1").rounds(), 3);
        due.is("rounds() of a star", Due.village("pppppp x01h1 x02h1 x03h1 x40h1 x50h1").rounds(), 5);
        due.is("rounds() of all five",
                Due.village("ppppp x01h1 x02h1 x03h1 x04h1 x12h1 x13h1 x14h1 x23h1 x24h1 x34h1").rounds(), 5);
        due.is("rounds() of all four", Due.village("pppp x01h1 x02h1 x03h1 x12h1 x13h1 x23h1").rounds(), 3);
        KissClearing x = Due.village("ppp x01h1 x12h1 x20h1");
        x.asked();
        x.lots(1, 5);
        due.is("rounds() when one pair has met", x.rounds(), 2);
    }

    /** Each set of at most 12 of the 15 pairs of six persons: too many for the model, so every seventh. */
    private static void roundsOfAllVillages() {
        for (int set = 0; set < 1 << 15; set += 7) {
            if (Integer.bitCount(set) > 10) {
                continue;
            }
            KissClearing x = Due.village("pppppp");
            List<Integer> pairs = new ArrayList<>();
            int number = 0;
            for (int p = 0; p < 6; p++) {
                for (int q = p + 1; q < 6; q++) {
                    if ((set >> number & 1) == 1) {
                        pairs.add(10 * p + q);
                        x.owe(number % 2 == 0 ? 100 * p + 10 * q : 100 * q + 10 * p, 1);
                    }
                    number++;
                }
            }
            due.is("rounds() of " + pairs, x.rounds(), Model.fewestRounds(pairs));
        }
    }

    private static void mistletoe() {
        KissClearing x = Due.village("ppp x01h5 x12h3 x20c6 x21t1");
        due.tells(x, "mistletoe()", x.mistletoe(), 0, 3 + 3);
        x.owe(120, 1);
        due.tells(x, "mistletoe() with one of 1 more", x.mistletoe(), 1, 3 + 2 + 1 + 1);
        KissClearing y = Due.village("pppp x23h2 x32h9");
        due.tells(y, "mistletoe() of alike ones", y.mistletoe(), 2, 1 + 5);
        due.tells(Due.village("pp"), "mistletoe() of no drafts", Due.village("pp").mistletoe(), 0, 0);
        KissClearing none = new KissClearing();
        due.refuses(none, "mistletoe() of no persons", none::mistletoe, Due.STATE);
    }
}
