import java.util.Random;

/** Runs of calls by lots, each held against the model: every answer, and all that is told, behind each call. */
public final class ModelTest {
    private static final int RUNS = 4000;
    /** What an object answers behind its 512th call is free, so a run ends ahead of a step that could go beyond. */
    private static final int MOST_CALLS = 512, MOST_CALLS_OF_A_STEP = 100;
    /** All that is told is looked at behind each step, but what seldom changes not each time. */
    private static final int SELDOM = 8;
    private static final String[] NAMES = {
        "row", "lay", "at", "tear", "copy", "mean", "text", "put", "fault", "village", "person", "draft", "mark", "owe",
        "meet", "clear", "endorse", "week", "undo", "keep", "on", "between", "all", "ring", "net", "left", "falls", "worst",
        "saved", "pairs", "rounds", "mistletoe", "gain", "trust", "blushes", "sure", "odds", "lots", "count", "findings",
        "a village", "rates", "blushes of a set", "a ring to clear"};

    private final Random lots;
    private final KissClearing x = new KissClearing();
    private final Model model = new Model();
    private final StringBuilder told = new StringBuilder();
    private boolean right = true;
    private int made = 0;

    private ModelTest(long seed) {
        lots = new Random(seed);
    }

    public static void main(String[] args) {
        int runs = args.length > 0 ? Integer.parseInt(args[0]) : RUNS;
        long first = args.length > 1 ? Long.parseLong(args[1]) : 1;
        String differing = firstDiffering(runs, first);
        System.out.println(differing.isEmpty() ? runs + " runs are as the model has them" : differing);
        if (!differing.isEmpty()) {
            System.exit(1);
        }
    }

    /** The first run that is not as the model has it, told whole; nothing, if there is none. */
    static String firstDiffering(int runs, long first) {
        for (long seed = first; seed < first + runs; seed++) {
            ModelTest run = new ModelTest(seed);
            if (!run.isRight()) {
                return "run " + seed + ":\n" + run.told;
            }
        }
        return "";
    }

    private boolean isRight() {
        if (lots.nextInt(20) > 0) {
            writeVillage();
        }
        for (int step = 1; right && made + MOST_CALLS_OF_A_STEP <= MOST_CALLS; step++) {
            call(NAMES[lots.nextInt(NAMES.length)]);
            lookAround();
            if (step % SELDOM == 0) {
                lookAtFindingsAndChances();
            }
        }
        lookAtFindingsAndChances();
        if (made > MOST_CALLS) {
            throw new IllegalStateException("a run of " + made + " calls");
        }
        return right;
    }

    /** Each look is one call of the object. */
    private void same(String call, long got, long want) {
        made++;
        told.append("  ").append(call).append(" = ").append(got).append('\n');
        if (got != want) {
            right = false;
            told.append("  due is ").append(want).append('\n');
        }
    }

    private void quiet(String call, long got, long want) {
        if (got == want) {
            made++;
        } else {
            same(call, got, want);
        }
    }

    /** Mostly from low to high, seldom a number beyond. */
    private int some(int low, int high) {
        int die = lots.nextInt(60);
        if (die == 0) {
            return low - 1;
        }
        if (die == 1) {
            return high + 1;
        }
        if (die == 2) {
            return lots.nextInt();
        }
        return low + lots.nextInt(high - low + 1);
    }

    private int persons() {
        return Math.max(model.count(0), 1);
    }

    private int person() {
        return some(0, persons() - 1);
    }

    private int draft() {
        return some(0, Math.max(model.count(1), 1) - 1);
    }

    private void call(String name) {
        int a = 0;
        int b = 0;
        int c = 0;
        switch (name) {
            case "row" -> { a = some(0, 5); b = some(0, lots.nextBoolean() ? 6 : 40); same("row(" + a + ", " + b + ")", x.row(a, b), model.row(a, b)); }
            case "lay" -> { a = some(0, 5); b = some(0, 5); c = lots.nextInt(9) == 0 ? lots.nextInt() : some(0, 12); same("lay(" + a + ", " + b + ", " + c + ")", x.lay(a, b, c), model.lay(a, b, c)); }
            case "at" -> { a = some(0, 5); b = some(0, 5); same("at(" + a + ", " + b + ")", x.at(a, b), model.at(a, b)); }
            case "tear" -> { a = some(0, 5); same("tear(" + a + ")", x.tear(a), model.tear(a)); }
            case "copy" -> copy();
            case "mean" -> { a = some(0, 5); same("mean(" + a + ")", x.mean(a), model.mean(a)); }
            case "text" -> { a = some(0, 3); b = some(0, 80); same("text(" + a + ", " + b + ")", x.text(a, b), model.text(a, b)); }
            case "put" -> put(some(0, 3), some(0, 30), lots.nextBoolean() ? lots.nextInt() : "pasbgi x0123456789hct".charAt(lots.nextInt(21)));
            case "fault" -> { a = some(0, 3); same("fault(" + a + ")", x.fault(a), model.fault(a)); }
            case "village" -> { if (lots.nextInt(4) == 0) { a = some(0, 3); same("village(" + a + ")", x.village(a), model.village(a)); } }
            case "person" -> { a = person(); b = some(0, 4); same("person(" + a + ", " + b + ")", x.person(a, b), model.person(a, b)); }
            case "draft" -> { a = draft(); b = some(0, 5); same("draft(" + a + ", " + b + ")", x.draft(a, b), model.draft(a, b)); }
            case "mark" -> { a = person(); b = some(1, 5); same("mark(" + a + ", " + b + ")", x.mark(a, b), model.mark(a, b)); }
            case "owe" -> { a = lots.nextInt(30) == 0 ? lots.nextInt() : 100 * person() + 10 * person() + some(0, 2); b = some(1, 9); same("owe(" + a + ", " + b + ")", x.owe(a, b), model.owe(a, b)); }
            case "meet" -> { a = person(); b = person(); same("meet(" + a + ", " + b + ")", x.meet(a, b), model.meet(a, b)); }
            case "clear" -> { a = some(0, 5); same("clear(" + a + ")", x.clear(a), model.clear(a)); }
            case "endorse" -> { a = draft(); b = person(); same("endorse(" + a + ", " + b + ")", x.endorse(a, b), model.endorse(a, b)); }
            case "week" -> { if (lots.nextInt(2) == 0) { same("week()", x.week(), model.week()); } }
            case "undo" -> { a = some(lots.nextInt(3) == 0 ? 0 : model.count(2) / 2, model.count(2)); same("undo(" + a + ")", x.undo(a), model.undo(a)); }
            case "keep" -> { a = some(0, 2); same("keep(" + a + ")", x.keep(a), model.keep(a)); }
            case "on" -> { a = some(0, 2); same("on(" + a + ")", x.on(a), model.on(a)); }
            case "between" -> { a = person(); b = person(); c = some(0, 2); same("between(" + a + ", " + b + ", " + c + ")", x.between(a, b, c), model.between(a, b, c)); }
            default -> callMore(name);
        }
    }

    private void callMore(String name) {
        int a = 0;
        int b = 0;
        switch (name) {
            case "all" -> { a = some(0, 1); same("all(" + a + ")", x.all(a), model.all(a)); }
            case "ring" -> { a = some(0, 1); b = some(0, 5); same("ring(" + a + ", " + b + ")", x.ring(a, b), model.ring(a, b)); }
            case "net" -> { a = some(0, 2); same("net(" + a + ")", x.net(a), model.net(a)); }
            case "left" -> { a = some(0, 1); same("left(" + a + ")", x.left(a), model.left(a)); }
            case "falls" -> { a = person(); same("falls(" + a + ")", x.falls(a), model.falls(a)); }
            case "worst" -> same("worst()", x.worst(), model.worst());
            case "saved" -> { a = person(); b = person(); same("saved(" + a + ", " + b + ")", x.saved(a, b), model.saved(a, b)); }
            case "pairs" -> same("pairs()", x.pairs(), model.pairs());
            case "rounds" -> same("rounds()", x.rounds(), model.rounds());
            case "mistletoe" -> same("mistletoe()", x.mistletoe(), model.mistletoe());
            case "gain" -> { a = some(0, 5); same("gain(" + a + ")", x.gain(a), model.gain(a)); }
            case "trust" -> { a = person(); b = person(); same("trust(" + a + ", " + b + ")", x.trust(a, b), model.trust(a, b)); }
            case "blushes" -> { a = some(0, 5); same("blushes(" + a + ")", x.blushes(a), model.blushes(a)); }
            case "sure" -> { a = some(0, 5); same("sure(" + a + ")", x.sure(a), model.sure(a)); }
            case "odds" -> same("odds()", x.odds(), model.odds());
            case "lots" -> { a = some(1, lots.nextInt(4) == 0 ? 20 : 3); b = some(1, 2147483645); same("lots(" + a + ", " + b + ")", x.lots(a, b), model.lots(a, b)); }
            case "count" -> { a = some(0, 8); same("count(" + a + ")", x.count(a), model.count(a)); }
            case "findings" -> { a = some(1, 5); same("findings(" + a + ")", x.findings(a), model.findings(a)); }
            case "a village" -> { if (lots.nextInt(8) == 0) { writeVillage(); } }
            case "rates" -> rates();
            case "blushes of a set" -> blushesOfSet();
            case "a ring to clear" -> ringToClear();
            default -> throw new IllegalStateException(name);
        }
    }

    private void lookAround() {
        quiet("digest()", x.digest(), model.digest());
        quiet("asked()", x.asked(), model.asked);
        quiet("finding()", x.finding(), model.latest);
    }

    private void lookAtFindingsAndChances() {
        quiet("upper()", x.upper(), model.upper);
        quiet("lower()", x.lower(), model.lower);
        for (int f = 1; f <= 5; f++) {
            quiet("findings(" + f + ")", x.findings(f), model.findings(f));
        }
    }

    private void copy() {
        int r = some(0, 5);
        int i = some(0, 5);
        int to = lots.nextInt(3) == 0 ? r : some(0, 5);
        int j = some(0, 5);
        int n = some(0, 5);
        same("copy(" + r + ", " + i + ", " + to + ", " + j + ", " + n + ")", x.copy(r, i, to, j, n), model.copy(r, i, to, j, n));
    }

    private void put(int t, int i, int v) {
        same("put(" + t + ", " + i + ", " + v + ")", x.put(t, i, v), model.put(t, i, v));
    }

    private void lay(int r, int i, int v) {
        same("lay(" + r + ", " + i + ", " + v + ")", x.lay(r, i, v), model.lay(r, i, v));
    }

    private String blanks() {
        return " ".repeat(lots.nextInt(5) == 0 ? lots.nextInt(3) : 0);
    }

    /** A village as told, of much or few drafts, seldom with a sign that is wrong. */
    private void writeVillage() {
        int persons = lots.nextInt(3) == 0 ? 2 + lots.nextInt(5) : 3 + lots.nextInt(4);
        StringBuilder text = new StringBuilder(blanks());
        for (int p = 0; p < persons; p++) {
            text.append("pasbgi".charAt(lots.nextInt(6))).append(blanks());
        }
        int drafts = lots.nextInt(3) == 0 ? lots.nextInt(13) : 8 + lots.nextInt(5);
        int sorts = 1 + lots.nextInt(3);
        boolean round = lots.nextBoolean();
        for (int i = 0; i < drafts; i++) {
            int who = lots.nextInt(persons);
            int further = round && lots.nextInt(4) > 0 ? 1 : 1 + lots.nextInt(persons - 1);
            text.append('x').append(who).append((who + further) % persons);
            text.append("hct".charAt(lots.nextInt(sorts))).append(1 + lots.nextInt(lots.nextBoolean() ? 9 : 3)).append(blanks());
        }
        if (lots.nextInt(6) == 0 && text.length() > 0) {
            text.setCharAt(lots.nextInt(text.length()), "pasbgi x0123456789hctz".charAt(lots.nextInt(22)));
        }
        if (lots.nextInt(12) == 0 && text.length() > 0) {
            text.setLength(lots.nextInt(text.length()));
        }
        if (lots.nextInt(15) == 0) {
            text.append(lots.nextBoolean() ? "p" : "x01h1");
        }
        int t = lots.nextInt(4);
        int n = Math.min(text.length(), 80);
        same("text(" + t + ", " + n + ")", x.text(t, n), model.text(t, n));
        for (int i = 0; i < n; i++) {
            put(t, i, text.charAt(i));
        }
        same("fault(" + t + ")", x.fault(t), model.fault(t));
        same("village(" + t + ")", x.village(t), model.village(t));
    }

    private void rates() {
        int r = lots.nextInt(6);
        same("row(" + r + ", 6)", x.row(r, 6), model.row(r, 6));
        for (int i = 0; i < 6; i++) {
            lay(r, i, lots.nextInt(40) == 0 ? some(1, 9999) : 80 + lots.nextInt(30));
        }
        same("gain(" + r + ")", x.gain(r), model.gain(r));
    }

    private void blushesOfSet() {
        int r = lots.nextInt(6);
        int n = model.count(0);
        int[] blush = new int[n];
        for (int i = 0; i < model.count(1); i++) {
            if (lots.nextBoolean()) {
                Model.Draft paid = model.peekDraft(i);
                blush[paid.who()] += paid.kisses();
                blush[paid.to()] += paid.kisses();
            }
        }
        same("row(" + r + ", " + n + ")", x.row(r, n), model.row(r, n));
        for (int p = 0; p < n; p++) {
            lay(r, p, blush[p]);
        }
        same("sure(" + r + ")", x.sure(r), model.sure(r));
        same("blushes(" + r + ")", x.blushes(r), model.blushes(r));
    }

    /** The best ring, perhaps turned, perhaps with one draft exchanged. */
    private void ringToClear() {
        int sort = lots.nextInt(2);
        int r = lots.nextInt(6);
        int best = model.ring(sort, r);
        same("ring(" + sort + ", " + r + ")", x.ring(sort, r), best);
        if (best <= 0) {
            return;
        }
        int[] ring = model.peekRow(r);
        int turn = lots.nextInt(ring.length);
        for (int i = 0; i < ring.length; i++) {
            lay(r, i, ring[(i + turn) % ring.length]);
        }
        if (lots.nextInt(3) == 0) {
            lay(r, lots.nextInt(ring.length), draft());
        }
        same("clear(" + r + ")", x.clear(r), model.clear(r));
    }
}
