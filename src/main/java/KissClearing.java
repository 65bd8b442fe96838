/**
 * Clearing of kisses: a village of persons and of drafts of one on another,
 * what is done with these, and what can be told of them.
 */
public final class KissClearing {
    public static final int BAD = -1, FULL = -2, FINDING = -3, STATE = -4, SPENT = -6, NONE = -9;

    private static final int NOTHING = 1, BEYOND = 2, UNLIKE = 3, NOUGHT = 4, SIZE = 5;

    private static final int ROWS = 6, ROW_PLACES = 40, TEXTS = 4, TEXT_PLACES = 80;
    private static final int MISSING = -1;

    private static final int FEWEST_PERSONS = 2, MOST_PERSONS = 6, MOST_PAIRS = 15;
    private static final int MOST_DRAFTS = 12, MOST_TOLD_KISSES = 9, MOST_GROWN_KISSES = 99;
    private static final int MOST_DEEDS = 40, KEPT_PLACES = 3;
    private static final int SOUR_WEEKS = 4, MOST_ENDORSED = 2, SHORTEST_RING = 3, LONGEST_TRUST = 3;
    private static final int MOST_SAVING = 200, NOBODY = -1;

    private static final int HAND = 0, CHEEK = 1, TRUE = 2, SORTS = 3;
    private static final int PERSON = 0, AUNT = 1, SAILOR = 2, BRIDE = 3, GRANDAUNT = 4, KINDS = 6;

    private static final int[] SORT_LETTERS = {'h', 'c', 't'};
    private static final int[] KIND_LETTERS = {'p', 'a', 's', 'b', 'g', 'i'};
    private static final int[] KIND_ABOVE = {-1, PERSON, PERSON, PERSON, AUNT, BRIDE};
    private static final int[] KIND_RESERVES = {1, 1, 0, 6, 1, 12};
    private static final int[] KIND_GROWTHS = {0, 1, 0, 0, 2, 0};

    private static final int PERSON_TELLS = 5, DRAFT_TELLS = 6, COUNTS = 9;
    private static final int RATES = 6, MOST_RATE = 9999, EVEN_OF_TWO = 10_000, EVEN_OF_THREE = 1_000_000;
    private static final int MOST_LOTS = 20, LOT_CUT = 32;
    private static final long LOT_FACTOR = 48_271L, LOT_MODULUS = 2_147_483_647L;

    private final Strip[] rows = new Strip[ROWS];
    private final Strip[] texts = new Strip[TEXTS];
    private final Village now = new Village();
    /** What is tried out happens here, so that the village itself stays as it is. */
    private final Village sketch = new Village();
    private final History history = new History();
    private final History[] kept = new History[KEPT_PLACES];
    private final Rings rings = new Rings();
    private final Rounds meetings = new Rounds();
    private final Blushes fitting = new Blushes();
    private final int[] timesFound = new int[SIZE + 1];
    private int latestFinding = 0;
    private int latestAsked = 0;
    private long latestUpper = 0;
    private long latestLower = 1;

    public KissClearing() {
        for (int r = 0; r < ROWS; r++) {
            rows[r] = new Strip(ROW_PLACES);
        }
        for (int t = 0; t < TEXTS; t++) {
            texts[t] = new Strip(TEXT_PLACES);
        }
        for (int k = 0; k < KEPT_PLACES; k++) {
            kept[k] = new History();
            kept[k].deeds = MISSING;
        }
    }

    // ---- 1 rows, texts, villages

    public int row(int r, int n) {
        if (!isRow(r) || n > ROW_PLACES) {
            return BAD;
        }
        if (n < 0) {
            return refuse(SIZE);
        }
        rows[r].renew(n, 0);
        return n;
    }

    public int lay(int r, int i, int v) {
        if (!isRow(r)) {
            return BAD;
        }
        int finding = rows[r].findingAt(i);
        if (finding != 0) {
            return refuse(finding);
        }
        int was = rows[r].places[i];
        rows[r].places[i] = v;
        return tell(was);
    }

    public int at(int r, int i) {
        if (!isRow(r)) {
            return BAD;
        }
        int finding = rows[r].findingAt(i);
        if (finding != 0) {
            return refuse(finding);
        }
        return tell(rows[r].places[i]);
    }

    public int tear(int r) {
        if (!isRow(r)) {
            return BAD;
        }
        if (rows[r].isMissing()) {
            return refuse(NOTHING);
        }
        rows[r].size = MISSING;
        return 1;
    }

    public int copy(int r, int i, int to, int j, int n) {
        if (!isRow(r) || !isRow(to)) {
            return BAD;
        }
        if (n < 0) {
            return refuse(SIZE);
        }
        if (rows[r].isMissing() || rows[to].isMissing()) {
            return refuse(NOTHING);
        }
        if (!rows[r].hasStretch(i, n) || !rows[to].hasStretch(j, n)) {
            return refuse(BEYOND);
        }
        System.arraycopy(rows[r].places, i, rows[to].places, j, n);
        return 1;
    }

    public int mean(int r) {
        if (!isRow(r)) {
            return BAD;
        }
        Strip row = rows[r];
        if (row.isMissing()) {
            return refuse(NOTHING);
        }
        if (row.size == 0) {
            return refuse(NOUGHT);
        }
        long sum = 0;
        for (int i = 0; i < row.size; i++) {
            sum += row.places[i];
        }
        return tell((int) (sum / row.size));
    }

    public int text(int t, int n) {
        if (!isText(t) || n > TEXT_PLACES) {
            return BAD;
        }
        if (n < 0) {
            return refuse(SIZE);
        }
        texts[t].renew(n, ' ');
        return n;
    }

    public int put(int t, int i, int v) {
        if (!isText(t)) {
            return BAD;
        }
        int finding = texts[t].findingAt(i);
        if (finding != 0) {
            return refuse(finding);
        }
        int was = texts[t].places[i];
        texts[t].places[i] = (byte) v;
        return was + 1000;
    }

    public int fault(int t) {
        if (!isText(t)) {
            return BAD;
        }
        if (texts[t].isMissing()) {
            return refuse(NOTHING);
        }
        return Reader.faultOf(texts[t], sketch);
    }

    public int village(int t) {
        if (!isText(t)) {
            return BAD;
        }
        if (texts[t].isMissing()) {
            return refuse(NOTHING);
        }
        if (Reader.faultOf(texts[t], sketch) != NONE) {
            return STATE;
        }
        now.becomeLike(sketch);
        history.deeds = 0;
        for (int k = 0; k < KEPT_PLACES; k++) {
            kept[k].deeds = MISSING;
        }
        return now.personCount;
    }

    public int person(int p, int what) {
        if (!now.hasPerson(p) || what < 0 || what >= PERSON_TELLS) {
            return BAD;
        }
        return tell(ofPerson(p, what));
    }

    public int draft(int i, int what) {
        if (!now.hasDraft(i) || what < 0 || what >= DRAFT_TELLS) {
            return BAD;
        }
        return tell(ofDraft(i, what));
    }

    public int mark(int p, int kind) {
        if (!now.hasPerson(p) || kind <= PERSON || kind >= KINDS) {
            return BAD;
        }
        if (!now.isOfKind(p, kind)) {
            return refuse(UNLIKE);
        }
        switch (kind) {
            case AUNT:
                return now.openOwedTo(p) * now.growthFor(p);
            case SAILOR:
                return now.openOn(p);
            case BRIDE:
                return Math.max(0, now.owed(p, 0) + now.reserve(p) - now.owing(p));
            case GRANDAUNT:
                return now.souringFor(p);
            default:
                return ringsThrough(p);
        }
    }

    // ---- 2 deeds

    public int owe(int told, int v) {
        if (told < 0 || v < 1 || v > MOST_TOLD_KISSES) {
            return BAD;
        }
        int who = told / 100;
        int whom = told / 10 % 10;
        int sort = told % 10;
        if (!now.hasTwo(who, whom) || sort >= SORTS) {
            return BAD;
        }
        if (now.draftCount >= MOST_DRAFTS || history.isFullFor(1)) {
            return FULL;
        }
        history.begin(now);
        now.addDraft(who, whom, sort, v);
        return now.draftCount - 1;
    }

    public int meet(int p, int q) {
        if (!now.hasTwo(p, q)) {
            return BAD;
        }
        if (history.isFullFor(1)) {
            return FULL;
        }
        history.begin(now);
        latestAsked = now.netTwo(p, q);
        return now.payTwo(p, q);
    }

    public int clear(int r) {
        if (!isRow(r)) {
            return BAD;
        }
        Strip row = rows[r];
        if (row.isMissing()) {
            return refuse(NOTHING);
        }
        for (int i = 0; i < row.size; i++) {
            if (!now.hasDraft(row.places[i])) {
                return refuse(UNLIKE);
            }
        }
        if (!now.isRing(row.places, row.size)) {
            return STATE;
        }
        if (history.isFullFor(1)) {
            return FULL;
        }
        history.begin(now);
        return now.clearRing(row.places, row.size);
    }

    public int endorse(int i, int p) {
        if (!now.hasDraft(i) || !now.hasPerson(p)) {
            return BAD;
        }
        Draft draft = now.drafts[i];
        if (draft.who == p) {
            return BAD;
        }
        if (!draft.isOpen() || draft.endorsed >= MOST_ENDORSED || draft.whom == p) {
            return STATE;
        }
        if (history.isFullFor(1)) {
            return FULL;
        }
        history.begin(now);
        draft.whom = p;
        draft.endorsed++;
        return draft.endorsed;
    }

    public int week() {
        if (now.isEmpty()) {
            return STATE;
        }
        if (history.isFullFor(1)) {
            return FULL;
        }
        history.begin(now);
        return now.passWeek();
    }

    public int undo(int n) {
        if (n < 0 || n > history.deeds) {
            return BAD;
        }
        int undone = history.deeds - n;
        if (undone > 0) {
            history.goBack(n, now);
        }
        return undone;
    }

    public int keep(int k) {
        if (!isKeptPlace(k)) {
            return BAD;
        }
        if (now.isEmpty()) {
            return STATE;
        }
        history.save(now);
        kept[k].becomeLike(history);
        return history.deeds;
    }

    public int on(int k) {
        if (!isKeptPlace(k)) {
            return BAD;
        }
        if (kept[k].deeds == MISSING) {
            return refuse(NOTHING);
        }
        history.becomeLike(kept[k]);
        history.goBack(history.deeds, now);
        return history.deeds;
    }

    // ---- 3 netting

    public int between(int p, int q, int sort) {
        if (!now.hasTwo(p, q) || !isSort(sort)) {
            return BAD;
        }
        return now.kissesBetween(p, q, sort);
    }

    public int all(int sort) {
        if (!isRingSort(sort)) {
            return BAD;
        }
        rings.search(now, sort);
        latestAsked = rings.mostCleared;
        return rings.found;
    }

    public int ring(int sort, int r) {
        if (!isRingSort(sort) || !isRow(r)) {
            return BAD;
        }
        rings.search(now, sort);
        if (rings.found == 0) {
            return NONE;
        }
        rows[r].renew(rings.bestSize, 0);
        System.arraycopy(rings.best, 0, rows[r].places, 0, rings.bestSize);
        return rings.bestLeast;
    }

    public int net(int sort) {
        if (!isSort(sort)) {
            return BAD;
        }
        int sum = 0;
        for (int p = 0; p < now.personCount; p++) {
            sum += Math.max(0, now.netOwing(p, sort));
        }
        return sum;
    }

    public int left(int sort) {
        if (!isRingSort(sort)) {
            return BAD;
        }
        sketch.becomeLike(now);
        int cleared = 0;
        rings.search(sketch, sort);
        // Each clearing closes a draft at least, so there are no more of them than drafts.
        while (rings.found > 0 && cleared < MOST_DRAFTS) {
            sketch.clearRing(rings.best, rings.bestSize);
            cleared++;
            rings.search(sketch, sort);
        }
        latestAsked = cleared;
        return sketch.kissesOfSort(sort);
    }

    // ---- 4 who falls

    public int falls(int p) {
        if (!now.hasPerson(p)) {
            return BAD;
        }
        return now.fallen(p, NOBODY);
    }

    public int worst() {
        if (now.isEmpty()) {
            return STATE;
        }
        int worst = 0;
        int most = -1;
        for (int p = 0; p < now.personCount; p++) {
            int falling = Integer.bitCount(now.fallen(p, NOBODY));
            if (falling > most) {
                most = falling;
                worst = p;
            }
        }
        latestAsked = most;
        return worst;
    }

    public int saved(int p, int q) {
        if (!now.hasTwo(p, q)) {
            return BAD;
        }
        // With enough reserve p stands to the end: it lacks most then, for owed only shrinks as others fall.
        int gone = now.fallen(q, p) | 1 << q;
        int lacking = Math.max(0, now.owing(p) - now.owed(p, gone) - now.reserve(p));
        return lacking > MOST_SAVING ? NONE : lacking;
    }

    // ---- 5 meetings

    public int pairs() {
        meetings.gather(now);
        sketch.becomeLike(now);
        int given = 0;
        for (int i = 0; i < meetings.size; i++) {
            sketch.netTwo(meetings.ones[i], meetings.others[i]);
            given += sketch.payTwo(meetings.ones[i], meetings.others[i]);
        }
        latestAsked = given;
        return meetings.size;
    }

    public int rounds() {
        meetings.gather(now);
        return meetings.fewest();
    }

    public int mistletoe() {
        if (now.isEmpty()) {
            return STATE;
        }
        int best = 0;
        int most = -1;
        for (int p = 0; p < now.personCount; p++) {
            int cleared = now.clearedByHalving(p);
            if (cleared > most) {
                most = cleared;
                best = p;
            }
        }
        latestAsked = most;
        return best;
    }

    // ---- 6 rates, trust

    public int gain(int r) {
        if (!isRow(r)) {
            return BAD;
        }
        Strip row = rows[r];
        if (row.isMissing()) {
            return refuse(NOTHING);
        }
        if (row.size != RATES) {
            return refuse(SIZE);
        }
        for (int i = 0; i < RATES; i++) {
            if (row.places[i] < 1 || row.places[i] > MOST_RATE) {
                return refuse(UNLIKE);
            }
        }
        return firstGain(row.places);
    }

    public int trust(int p, int q) {
        if (!now.hasTwo(p, q)) {
            return BAD;
        }
        int reached = 1 << p;
        for (int length = 1; length <= LONGEST_TRUST; length++) {
            reached |= now.owedByAny(reached);
            if ((reached & 1 << q) != 0) {
                return length;
            }
        }
        return NONE;
    }

    // ---- 7 blushes, lots

    public int blushes(int r) {
        int refused = blushesRefused(r);
        if (refused != 0) {
            return refused;
        }
        fitting.search(now, rows[r].places);
        latestAsked = fitting.first;
        return fitting.sets;
    }

    public int sure(int r) {
        int refused = blushesRefused(r);
        if (refused != 0) {
            return refused;
        }
        fitting.search(now, rows[r].places);
        return fitting.inEach;
    }

    public int odds() {
        if (now.isEmpty()) {
            return STATE;
        }
        int harmless = 0;
        for (int p = 0; p < now.personCount; p++) {
            if (now.fallen(p, NOBODY) == 0) {
                harmless++;
            }
        }
        int common = greatestCommon(now.personCount, harmless);
        if (common > 0) {
            latestUpper = harmless / common;
            latestLower = now.personCount / common;
        }
        return 1;
    }

    public int lots(int n, int seed) {
        if (n < 1 || n > MOST_LOTS || seed < 1 || seed >= LOT_MODULUS) {
            return BAD;
        }
        int persons = now.personCount;
        if (persons < FEWEST_PERSONS) {
            return STATE;
        }
        if (history.isFullFor(n)) {
            return FULL;
        }
        long lot = seed;
        int given = 0;
        for (int i = 0; i < n; i++) {
            lot = LOT_FACTOR * lot % LOT_MODULUS;
            int p = (int) (lot % persons);
            int q = (int) ((p + 1 + lot / LOT_CUT % (persons - 1)) % persons);
            history.begin(now);
            now.netTwo(p, q);
            given += now.payTwo(p, q);
        }
        return given;
    }

    // ---- 8 what is told

    public int asked() {
        return latestAsked;
    }

    public long upper() {
        return latestUpper;
    }

    public long lower() {
        return latestLower;
    }

    public int count(int what) {
        if (what < 0 || what >= COUNTS) {
            return BAD;
        }
        return howMany(what);
    }

    public int finding() {
        return latestFinding;
    }

    public int findings(int f) {
        if (f < NOTHING || f > SIZE) {
            return BAD;
        }
        return timesFound[f];
    }

    public long digest() {
        long h = 17;
        for (int what = 0; what < COUNTS; what++) {
            h = 31 * h + howMany(what);
        }
        for (int p = 0; p < now.personCount; p++) {
            for (int what = 0; what < PERSON_TELLS; what++) {
                h = 31 * h + ofPerson(p, what);
            }
        }
        for (int i = 0; i < now.draftCount; i++) {
            for (int what = 0; what < DRAFT_TELLS; what++) {
                h = 31 * h + ofDraft(i, what);
            }
        }
        for (int k = 0; k < KEPT_PLACES; k++) {
            h = 31 * h + kept[k].deeds;
        }
        for (int r = 0; r < ROWS; r++) {
            h = rows[r].mixedInto(h);
        }
        for (int t = 0; t < TEXTS; t++) {
            h = texts[t].mixedInto(h);
        }
        return h;
    }

    // ---- what the calls share

    private static boolean isRow(int r) {
        return r >= 0 && r < ROWS;
    }

    private static boolean isText(int t) {
        return t >= 0 && t < TEXTS;
    }

    private static boolean isKeptPlace(int k) {
        return k >= 0 && k < KEPT_PLACES;
    }

    private static boolean isSort(int sort) {
        return sort >= 0 && sort < SORTS;
    }

    private static boolean isRingSort(int sort) {
        return sort == HAND || sort == CHEEK;
    }

    private int refuse(int finding) {
        latestFinding = finding;
        if (finding >= NOTHING && finding <= SIZE) {
            timesFound[finding]++;
        }
        return FINDING;
    }

    private int tell(int answer) {
        latestAsked = answer;
        return 1;
    }

    private int ofPerson(int p, int what) {
        switch (what) {
            case 0:
                return now.kindOf(p);
            case 1:
                return now.owing(p);
            case 2:
                return now.owed(p, 0);
            case 3:
                return now.reserve(p);
            default:
                return Integer.bitCount(now.owedByAny(1 << p));
        }
    }

    private int ofDraft(int i, int what) {
        Draft draft = now.drafts[i];
        switch (what) {
            case 0:
                return draft.who;
            case 1:
                return draft.whom;
            case 2:
                return draft.sort;
            case 3:
                return draft.kisses;
            case 4:
                return draft.weeks;
            default:
                return draft.endorsed;
        }
    }

    private int howMany(int what) {
        switch (what) {
            case 0:
                return now.personCount;
            case 1:
                return now.draftCount;
            case 2:
                return history.deeds;
            case 3:
                return now.openDrafts();
            case 4:
                return now.kissesOfSort(HAND) + now.kissesOfSort(CHEEK) + now.kissesOfSort(TRUE);
            case 5:
                return now.personsOfKind(AUNT);
            case 6:
                return thoseThere(rows);
            case 7:
                return thoseThere(texts);
            default:
                return keptVillages();
        }
    }

    private static int thoseThere(Strip[] strips) {
        int there = 0;
        for (int i = 0; i < strips.length; i++) {
            if (!strips[i].isMissing()) {
                there++;
            }
        }
        return there;
    }

    private int keptVillages() {
        int there = 0;
        for (int k = 0; k < KEPT_PLACES; k++) {
            if (kept[k].deeds != MISSING) {
                there++;
            }
        }
        return there;
    }

    private int ringsThrough(int p) {
        rings.search(now, HAND);
        int ofHands = rings.through[p];
        rings.search(now, CHEEK);
        return ofHands + rings.through[p];
    }

    /** The rates are HAND in CHEEKS, in TRUE ones, CHEEK in HANDS, in TRUE ones, TRUE one in HANDS, in CHEEKS. */
    private static int firstGain(int[] rates) {
        if (rates.length < RATES) {
            return NONE;
        }
        if ((long) rates[0] * rates[2] > EVEN_OF_TWO) {
            return 0;
        }
        if ((long) rates[1] * rates[4] > EVEN_OF_TWO) {
            return 1;
        }
        if ((long) rates[3] * rates[5] > EVEN_OF_TWO) {
            return 2;
        }
        if ((long) rates[0] * rates[3] * rates[4] > EVEN_OF_THREE) {
            return 3;
        }
        if ((long) rates[1] * rates[5] * rates[2] > EVEN_OF_THREE) {
            return 4;
        }
        return NONE;
    }

    private int blushesRefused(int r) {
        if (!isRow(r)) {
            return BAD;
        }
        if (now.isEmpty()) {
            return STATE;
        }
        if (rows[r].isMissing()) {
            return refuse(NOTHING);
        }
        if (rows[r].size != now.personCount) {
            return refuse(SIZE);
        }
        return 0;
    }

    private static int greatestCommon(int more, int less) {
        for (int d = Math.min(more, MOST_PERSONS); d > 1; d--) {
            if (more % d == 0 && less % d == 0) {
                return d;
            }
        }
        return 1;
    }

    /** A row or a text: missing, or so many places. */
    private static final class Strip {
        final int[] places;
        int size = MISSING;

        Strip(int most) {
            places = new int[most];
        }

        boolean isMissing() {
            return size == MISSING;
        }

        boolean hasPlace(int i) {
            return i >= 0 && i < size;
        }

        /** Whether n places from i on are there; n itself is not below 0. */
        boolean hasStretch(int i, int n) {
            return i >= 0 && i <= size && n <= size - i;
        }

        int findingAt(int i) {
            if (isMissing()) {
                return NOTHING;
            }
            return hasPlace(i) ? 0 : BEYOND;
        }

        void renew(int n, int filling) {
            size = n;
            for (int i = 0; i < n && i < places.length; i++) {
                places[i] = filling;
            }
        }

        long mixedInto(long h) {
            long mixed = 31 * h + size;
            for (int i = 0; i < size; i++) {
                mixed = 31 * mixed + places[i];
            }
            return mixed;
        }
    }

    private static final class Draft {
        int who;
        int whom;
        int sort;
        int kisses;
        int weeks;
        int endorsed;

        boolean isOpen() {
            return kisses > 0;
        }

        boolean isOpenOf(int wantedSort) {
            return kisses > 0 && sort == wantedSort;
        }

        int worth() {
            return kisses * (sort + 1);
        }

        void become(int newWho, int newWhom, int newSort, int newKisses) {
            who = newWho;
            whom = newWhom;
            sort = newSort;
            kisses = newKisses;
            weeks = 0;
            endorsed = 0;
        }

        void becomeLike(Draft other) {
            become(other.who, other.whom, other.sort, other.kisses);
            weeks = other.weeks;
            endorsed = other.endorsed;
        }

        /** One number instead of six, for forty pages of drafts are kept four times over. */
        int packed() {
            return who | whom << 3 | sort << 6 | endorsed << 8 | weeks << 10 | kisses << 16;
        }

        void unpack(int page) {
            become(page & 7, page >> 3 & 7, page >> 6 & 3, page >> 16 & 127);
            endorsed = page >> 8 & 3;
            weeks = page >> 10 & 63;
        }
    }

    /** Persons and drafts, as they stand. */
    private static final class Village {
        int personCount = 0;
        int draftCount = 0;
        final int[] kinds = new int[MOST_PERSONS];
        final Draft[] drafts = new Draft[MOST_DRAFTS];

        Village() {
            for (int i = 0; i < MOST_DRAFTS; i++) {
                drafts[i] = new Draft();
            }
        }

        boolean isEmpty() {
            return personCount == 0;
        }

        boolean hasPerson(int p) {
            return p >= 0 && p < personCount;
        }

        boolean hasTwo(int p, int q) {
            return hasPerson(p) && hasPerson(q) && p != q;
        }

        boolean hasDraft(int i) {
            return i >= 0 && i < draftCount;
        }

        void becomeEmpty() {
            personCount = 0;
            draftCount = 0;
        }

        void becomeLike(Village other) {
            personCount = other.personCount;
            draftCount = other.draftCount;
            for (int p = 0; p < personCount; p++) {
                kinds[p] = other.kinds[p];
            }
            for (int i = 0; i < draftCount; i++) {
                drafts[i].becomeLike(other.drafts[i]);
            }
        }

        void addPerson(int kind) {
            if (personCount < MOST_PERSONS) {
                kinds[personCount] = kind;
                personCount++;
            }
        }

        void addDraft(int who, int whom, int sort, int kisses) {
            if (draftCount < MOST_DRAFTS) {
                drafts[draftCount].become(who, whom, sort, kisses);
                draftCount++;
            }
        }

        int kindOf(int p) {
            return hasPerson(p) ? kinds[p] : PERSON;
        }

        boolean isOfKind(int p, int kind) {
            int is = kindOf(p);
            for (int step = 0; step < KINDS && is != kind && is > PERSON && is < KINDS; step++) {
                is = KIND_ABOVE[is];
            }
            return is == kind;
        }

        int personsOfKind(int kind) {
            int persons = 0;
            for (int p = 0; p < personCount; p++) {
                if (isOfKind(p, kind)) {
                    persons++;
                }
            }
            return persons;
        }

        int reserve(int p) {
            return KIND_RESERVES[kindOf(p)];
        }

        int growthFor(int p) {
            return KIND_GROWTHS[kindOf(p)];
        }

        int owing(int p) {
            int sum = 0;
            for (int i = 0; i < draftCount; i++) {
                if (drafts[i].who == p) {
                    sum += drafts[i].worth();
                }
            }
            return sum;
        }

        /** What p is owed by those who are not gone (bits). */
        int owed(int p, int gone) {
            int sum = 0;
            for (int i = 0; i < draftCount; i++) {
                if (drafts[i].whom == p && (gone & 1 << drafts[i].who) == 0) {
                    sum += drafts[i].worth();
                }
            }
            return sum;
        }

        int openDrafts() {
            int open = 0;
            for (int i = 0; i < draftCount; i++) {
                if (drafts[i].isOpen()) {
                    open++;
                }
            }
            return open;
        }

        int openOwedTo(int p) {
            int open = 0;
            for (int i = 0; i < draftCount; i++) {
                if (drafts[i].isOpen() && drafts[i].whom == p) {
                    open++;
                }
            }
            return open;
        }

        int openOn(int p) {
            int open = 0;
            for (int i = 0; i < draftCount; i++) {
                if (drafts[i].isOpen() && drafts[i].who == p) {
                    open++;
                }
            }
            return open;
        }

        int souringFor(int p) {
            int souring = 0;
            for (int i = 0; i < draftCount; i++) {
                Draft draft = drafts[i];
                if (draft.isOpen() && draft.whom == p && draft.sort != TRUE && draft.weeks + 1 >= SOUR_WEEKS) {
                    souring++;
                }
            }
            return souring;
        }

        int kissesOfSort(int sort) {
            int sum = 0;
            for (int i = 0; i < draftCount; i++) {
                if (drafts[i].sort == sort) {
                    sum += drafts[i].kisses;
                }
            }
            return sum;
        }

        int kissesBetween(int p, int q, int sort) {
            int sum = 0;
            for (int i = 0; i < draftCount; i++) {
                if (drafts[i].who == p && drafts[i].whom == q && drafts[i].sort == sort) {
                    sum += drafts[i].kisses;
                }
            }
            return sum;
        }

        int netOwing(int p, int sort) {
            int sum = 0;
            for (int i = 0; i < draftCount; i++) {
                if (drafts[i].sort == sort) {
                    sum += drafts[i].who == p ? drafts[i].kisses : 0;
                    sum -= drafts[i].whom == p ? drafts[i].kisses : 0;
                }
            }
            return sum;
        }

        /** To whom (bits) one of these persons (bits) owes. */
        int owedByAny(int persons) {
            int reached = 0;
            for (int i = 0; i < draftCount; i++) {
                if (drafts[i].isOpen() && (persons & 1 << drafts[i].who) != 0) {
                    reached |= 1 << drafts[i].whom;
                }
            }
            return reached;
        }

        int clearedByHalving(int p) {
            int cleared = 0;
            for (int i = 0; i < draftCount; i++) {
                if (drafts[i].who == p || drafts[i].whom == p) {
                    cleared += drafts[i].kisses - drafts[i].kisses / 2;
                }
            }
            return cleared;
        }

        /** Nets hands and cheeks of two: how many kisses each way. */
        int netTwo(int p, int q) {
            int netted = 0;
            for (int sort = HAND; sort <= CHEEK; sort++) {
                int lesser = Math.min(kissesBetween(p, q, sort), kissesBetween(q, p, sort));
                lessen(p, q, sort, lesser);
                lessen(q, p, sort, lesser);
                netted += lesser;
            }
            return netted;
        }

        private void lessen(int p, int q, int sort, int kisses) {
            int rest = kisses;
            for (int i = 0; i < draftCount; i++) {
                Draft draft = drafts[i];
                if (draft.who == p && draft.whom == q && draft.sort == sort) {
                    int taken = Math.min(rest, draft.kisses);
                    draft.kisses -= taken;
                    rest -= taken;
                }
            }
        }

        /** Pays what two owe one another, but what a sailor owes: how many kisses. */
        int payTwo(int p, int q) {
            int paid = 0;
            for (int i = 0; i < draftCount; i++) {
                Draft draft = drafts[i];
                boolean ofBoth = draft.who == p && draft.whom == q || draft.who == q && draft.whom == p;
                if (ofBoth && !isOfKind(draft.who, SAILOR)) {
                    paid += draft.kisses;
                    draft.kisses = 0;
                }
            }
            return paid;
        }

        boolean isRing(int[] numbers, int size) {
            if (size < SHORTEST_RING || size > MOST_PERSONS || size > numbers.length || !hasDraft(numbers[0])) {
                return false;
            }
            int sort = drafts[numbers[0]].sort;
            int seen = 0;
            for (int i = 0; i < size; i++) {
                int after = numbers[i + 1 < size ? i + 1 : 0];
                if (!hasDraft(numbers[i]) || !hasDraft(after)) {
                    return false;
                }
                Draft draft = drafts[numbers[i]];
                if (!draft.isOpenOf(sort) || draft.whom != drafts[after].who || (seen & 1 << draft.who) != 0) {
                    return false;
                }
                seen |= 1 << draft.who;
            }
            return sort != TRUE;
        }

        int clearRing(int[] numbers, int size) {
            if (!isRing(numbers, size)) {
                return 0;
            }
            int least = drafts[numbers[0]].kisses;
            for (int i = 1; i < size; i++) {
                least = Math.min(least, drafts[numbers[i]].kisses);
            }
            for (int i = 0; i < size; i++) {
                drafts[numbers[i]].kisses -= least;
            }
            return least;
        }

        /** Lets a week go by: how many kisses went sour. */
        int passWeek() {
            int soured = 0;
            for (int i = 0; i < draftCount; i++) {
                Draft draft = drafts[i];
                if (draft.isOpen()) {
                    draft.weeks++;
                    draft.kisses = Math.min(MOST_GROWN_KISSES, draft.kisses + growthFor(draft.whom));
                    if (draft.weeks >= SOUR_WEEKS && draft.sort != TRUE) {
                        soured += draft.kisses;
                        draft.kisses = 0;
                    }
                }
            }
            return soured;
        }

        /** Who (bits) falls, if one bounces, while one more (or nobody) is spared falling. */
        int fallen(int bouncing, int spared) {
            int gone = 1 << bouncing;
            boolean more = true;
            // Each round but the last makes one fall at least.
            for (int round = 0; round < MOST_PERSONS && more; round++) {
                int before = gone;
                for (int p = 0; p < personCount; p++) {
                    if (p != spared && (gone & 1 << p) == 0 && owing(p) > owed(p, gone) + reserve(p)) {
                        gone |= 1 << p;
                    }
                }
                more = gone != before;
            }
            return gone & ~(1 << bouncing);
        }
    }

    /** The drafts ahead of each deed, and, behind these pages, as they were saved last. */
    private static final class History {
        int deeds = 0;
        private final int[] counts = new int[MOST_DEEDS + 1];
        private final int[] pages = new int[(MOST_DEEDS + 1) * MOST_DRAFTS];

        boolean isFullFor(int more) {
            return deeds + more > MOST_DEEDS;
        }

        void begin(Village village) {
            if (!isFullFor(1)) {
                save(village);
                deeds++;
            }
        }

        void save(Village village) {
            if (deeds < 0 || deeds > MOST_DEEDS) {
                return;
            }
            counts[deeds] = village.draftCount;
            for (int i = 0; i < village.draftCount; i++) {
                pages[deeds * MOST_DRAFTS + i] = village.drafts[i].packed();
            }
        }

        void goBack(int n, Village village) {
            if (n < 0 || n > deeds) {
                return;
            }
            deeds = n;
            village.draftCount = counts[n];
            for (int i = 0; i < village.draftCount; i++) {
                village.drafts[i].unpack(pages[n * MOST_DRAFTS + i]);
            }
        }

        void becomeLike(History other) {
            deeds = other.deeds;
            System.arraycopy(other.counts, 0, counts, 0, deeds + 1);
            System.arraycopy(other.pages, 0, pages, 0, (deeds + 1) * MOST_DRAFTS);
        }
    }

    /** Reads a text as a village. */
    private static final class Reader {
        private static final int DRAFT_SIGNS = 5;
        private static final int NO_SIGN = -1000;

        /** The fault of a text (or NONE); without one, the village is what the text says. */
        static int faultOf(Strip text, Village village) {
            village.becomeEmpty();
            int place = 0;
            while (place < text.size) {
                int sign = signAt(text, place);
                if (sign == ' ') {
                    place++;
                } else if (sign == 'x') {
                    int fault = readDraft(text, place, village);
                    if (fault != NONE) {
                        return fault;
                    }
                    place += DRAFT_SIGNS;
                } else if (readPerson(sign, village)) {
                    place++;
                } else {
                    return place;
                }
            }
            return village.personCount < FEWEST_PERSONS ? text.size : NONE;
        }

        private static boolean readPerson(int sign, Village village) {
            int kind = numberOf(sign, KIND_LETTERS);
            if (kind < 0 || village.draftCount > 0 || village.personCount >= MOST_PERSONS) {
                return false;
            }
            village.addPerson(kind);
            return true;
        }

        /** A place behind the end is the text's size here, for all places ahead of it were there. */
        private static int readDraft(Strip text, int place, Village village) {
            if (village.personCount < FEWEST_PERSONS || village.draftCount >= MOST_DRAFTS) {
                return place;
            }
            int who = signAt(text, place + 1) - '0';
            if (!village.hasPerson(who)) {
                return place + 1;
            }
            int whom = signAt(text, place + 2) - '0';
            if (!village.hasTwo(who, whom)) {
                return place + 2;
            }
            int sort = numberOf(signAt(text, place + 3), SORT_LETTERS);
            if (sort < 0) {
                return place + 3;
            }
            int kisses = signAt(text, place + 4) - '0';
            if (kisses < 1 || kisses > MOST_TOLD_KISSES) {
                return place + 4;
            }
            village.addDraft(who, whom, sort, kisses);
            return NONE;
        }

        private static int signAt(Strip text, int place) {
            return text.hasPlace(place) ? text.places[place] : NO_SIGN;
        }

        private static int numberOf(int sign, int[] letters) {
            for (int i = 0; i < letters.length; i++) {
                if (letters[i] == sign) {
                    return i;
                }
            }
            return -1;
        }
    }

    /** All rings of a sort; each is found once, beginning with its least draft, in the order of their rows. */
    private static final class Rings {
        int found = 0;
        int mostCleared = 0;
        int bestLeast = 0;
        int bestSize = 0;
        final int[] best = new int[MOST_PERSONS];
        final int[] through = new int[MOST_PERSONS];
        private final int[] path = new int[MOST_PERSONS];

        void search(Village village, int sort) {
            found = 0;
            mostCleared = 0;
            for (int p = 0; p < MOST_PERSONS; p++) {
                through[p] = 0;
            }
            for (int i = 0; i < village.draftCount; i++) {
                Draft first = village.drafts[i];
                if (first.isOpenOf(sort)) {
                    path[0] = i;
                    extend(village, 1, 1 << first.who, first.kisses);
                }
            }
        }

        /** Goes on from the path's last draft; seen are those (bits) who owe on the path. */
        private void extend(Village village, int length, int seen, int least) {
            if (length < 1 || length > MOST_PERSONS) {
                return;
            }
            Draft first = village.drafts[path[0]];
            int end = village.drafts[path[length - 1]].whom;
            if (end == first.who) {
                takeRing(village, length, least);
                return;
            }
            if ((seen & 1 << end) != 0 || length == MOST_PERSONS) {
                return;
            }
            for (int i = path[0] + 1; i < village.draftCount; i++) {
                Draft next = village.drafts[i];
                if (next.who == end && next.isOpenOf(first.sort)) {
                    path[length] = i;
                    extend(village, length + 1, seen | 1 << end, Math.min(least, next.kisses));
                }
            }
        }

        private void takeRing(Village village, int length, int least) {
            if (length < SHORTEST_RING) {
                return;
            }
            found++;
            for (int i = 0; i < length; i++) {
                through[village.drafts[path[i]].who]++;
            }
            if (least * length > mostCleared) {
                mostCleared = least * length;
                bestLeast = least;
                bestSize = length;
                System.arraycopy(path, 0, best, 0, length);
            }
        }
    }

    /** The pairs that have something open between them, and the rounds in which they meet. */
    private static final class Rounds {
        int size = 0;
        final int[] ones = new int[MOST_PAIRS];
        final int[] others = new int[MOST_PAIRS];
        private final int[] busy = new int[MOST_PERSONS];

        void gather(Village village) {
            size = 0;
            for (int p = 0; p < village.personCount; p++) {
                int owedByOne = village.owedByAny(1 << p);
                for (int q = p + 1; q < village.personCount; q++) {
                    boolean open = (owedByOne & 1 << q) != 0 || (village.owedByAny(1 << q) & 1 << p) != 0;
                    if (open && size < MOST_PAIRS) {
                        ones[size] = p;
                        others[size] = q;
                        size++;
                    }
                }
            }
        }

        int fewest() {
            for (int limit = mostOfOne(); limit < size; limit++) {
                for (int p = 0; p < MOST_PERSONS; p++) {
                    busy[p] = 0;
                }
                if (fit(0, limit, 0)) {
                    return limit;
                }
            }
            return size;
        }

        /** Fewer rounds than one person has pairs never do. */
        private int mostOfOne() {
            int most = 0;
            for (int p = 0; p < MOST_PERSONS; p++) {
                int own = 0;
                for (int i = 0; i < size; i++) {
                    own += ones[i] == p || others[i] == p ? 1 : 0;
                }
                most = Math.max(most, own);
            }
            return most;
        }

        /** Whether pairs from i on find rounds below the limit; of rounds yet unused only the first is tried. */
        private boolean fit(int i, int limit, int used) {
            if (i < 0 || i >= size) {
                return true;
            }
            int p = ones[i];
            int q = others[i];
            for (int round = 0; round < limit && round <= used; round++) {
                int bit = 1 << round;
                if (((busy[p] | busy[q]) & bit) == 0) {
                    busy[p] |= bit;
                    busy[q] |= bit;
                    if (fit(i + 1, limit, Math.max(used, round + 1))) {
                        return true;
                    }
                    busy[p] &= ~bit;
                    busy[q] &= ~bit;
                }
            }
            return false;
        }
    }

    /** The sets of open drafts that, paid, make given blushes. */
    private static final class Blushes {
        int sets = 0;
        int first = NONE;
        int inEach = 0;
        private final int[] lacking = new int[MOST_PERSONS];

        void search(Village village, int[] blushes) {
            sets = 0;
            first = NONE;
            inEach = 0;
            for (int p = 0; p < village.personCount && p < blushes.length; p++) {
                lacking[p] = blushes[p];
            }
            choose(village, village.draftCount - 1, 0);
        }

        /**
         * Decides on the draft i and those below it. From the last draft down, and first without it, then with it: so
         * the sets come by their numbers.
         */
        private void choose(Village village, int i, int chosen) {
            if (i < 0 || i >= MOST_DRAFTS) {
                takeIfFitting(village, chosen);
                return;
            }
            choose(village, i - 1, chosen);
            Draft draft = village.drafts[i];
            int kisses = draft.kisses;
            if (draft.isOpen() && lacking[draft.who] >= kisses && lacking[draft.whom] >= kisses) {
                lacking[draft.who] -= kisses;
                lacking[draft.whom] -= kisses;
                choose(village, i - 1, chosen | 1 << i);
                lacking[draft.who] += kisses;
                lacking[draft.whom] += kisses;
            }
        }

        private void takeIfFitting(Village village, int chosen) {
            for (int p = 0; p < village.personCount; p++) {
                if (lacking[p] != 0) {
                    return;
                }
            }
            first = sets == 0 ? chosen : first;
            inEach = sets == 0 ? chosen : inEach & chosen;
            sets++;
        }
    }
}
