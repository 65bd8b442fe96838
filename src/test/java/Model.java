import java.util.ArrayList;
import java.util.Arrays;
import java.util.HashMap;
import java.util.List;
import java.util.Map;
import java.util.regex.Matcher;
import java.util.regex.Pattern;

/**
 * The document said a second time, by other means: states are copied, sets are gone through whole, texts are matched by
 * patterns. Slow, and only to hold KissClearing against it.
 */
final class Model {
    static final int BAD = -1, FULL = -2, FINDING = -3, STATE = -4, NONE = -9;
    static final int NOTHING = 1, BEYOND = 2, UNLIKE = 3, NOUGHT = 4, SIZE = 5;
    private static final String KINDS = "pasbgi";
    private static final String SORTS = "hct";
    private static final Map<List<Integer>, Integer> ROUNDS_KNOWN = new HashMap<>();
    private static final Pattern[] VILLAGES = new Pattern[7];

    record Draft(int who, int to, int sort, int kisses, int weeks, int endorsed) {
        boolean open() {
            return kisses > 0;
        }

        int counts() {
            return sort == 0 ? kisses : sort == 1 ? 2 * kisses : 3 * kisses;
        }

        Draft with(int newKisses) {
            return new Draft(who, to, sort, newKisses, weeks, endorsed);
        }
    }

    record Kept(List<Draft> drafts, List<List<Draft>> before) { }

    private final int[][] rows = new int[6][];
    private final byte[][] texts = new byte[4][];
    private String persons = "";
    private List<Draft> drafts = new ArrayList<>();
    private List<List<Draft>> before = new ArrayList<>();
    private final Kept[] kept = new Kept[3];
    private final int[] found = new int[6];
    int asked = 0;
    long upper = 0;
    long lower = 1;
    int latest = 0;

    private int find(int f) {
        latest = f;
        found[f]++;
        return FINDING;
    }

    private int tell(int answer) {
        asked = answer;
        return 1;
    }

    private boolean isPerson(int p) {
        return p >= 0 && p < persons.length();
    }

    private boolean areTwo(int p, int q) {
        return isPerson(p) && isPerson(q) && p != q;
    }

    private boolean isDraft(int i) {
        return i >= 0 && i < drafts.size();
    }

    private char letter(int p) {
        return persons.charAt(p);
    }

    private int reserve(int p) {
        return switch (letter(p)) {
            case 's' -> 0;
            case 'b' -> 6;
            case 'i' -> 12;
            default -> 1;
        };
    }

    Draft peekDraft(int i) {
        return drafts.get(i);
    }

    int[] peekRow(int r) {
        return rows[r].clone();
    }

    int row(int r, int n) {
        if (r < 0 || r > 5 || n > 40) {
            return BAD;
        }
        if (n < 0) {
            return find(SIZE);
        }
        rows[r] = new int[n];
        return n;
    }

    int lay(int r, int i, int v) {
        int answer = at(r, i);
        if (answer == 1) {
            rows[r][i] = v;
        }
        return answer;
    }

    int at(int r, int i) {
        if (r < 0 || r > 5) {
            return BAD;
        }
        if (rows[r] == null) {
            return find(NOTHING);
        }
        if (i < 0 || i >= rows[r].length) {
            return find(BEYOND);
        }
        return tell(rows[r][i]);
    }

    int tear(int r) {
        if (r < 0 || r > 5) {
            return BAD;
        }
        if (rows[r] == null) {
            return find(NOTHING);
        }
        rows[r] = null;
        return 1;
    }

    int copy(int r, int i, int to, int j, int n) {
        if (r < 0 || r > 5 || to < 0 || to > 5) {
            return BAD;
        }
        if (n < 0) {
            return find(SIZE);
        }
        if (rows[r] == null || rows[to] == null) {
            return find(NOTHING);
        }
        if (i < 0 || j < 0 || (long) i + n > rows[r].length || (long) j + n > rows[to].length) {
            return find(BEYOND);
        }
        int[] taken = Arrays.copyOfRange(rows[r], i, i + n);
        for (int k = 0; k < n; k++) {
            rows[to][j + k] = taken[k];
        }
        return 1;
    }

    int mean(int r) {
        if (r < 0 || r > 5) {
            return BAD;
        }
        if (rows[r] == null) {
            return find(NOTHING);
        }
        if (rows[r].length == 0) {
            return find(NOUGHT);
        }
        return tell((int) (Arrays.stream(rows[r]).asLongStream().sum() / rows[r].length));
    }

    int text(int t, int n) {
        if (t < 0 || t > 3 || n > 80) {
            return BAD;
        }
        if (n < 0) {
            return find(SIZE);
        }
        texts[t] = new byte[n];
        Arrays.fill(texts[t], (byte) 32);
        return n;
    }

    int put(int t, int i, int v) {
        if (t < 0 || t > 3) {
            return BAD;
        }
        if (texts[t] == null) {
            return find(NOTHING);
        }
        if (i < 0 || i >= texts[t].length) {
            return find(BEYOND);
        }
        int was = texts[t][i];
        texts[t][i] = (byte) v;
        return was + 1000;
    }

    private String string(int t) {
        StringBuilder all = new StringBuilder();
        for (byte b : texts[t]) {
            all.append((char) (b & 255));
        }
        return all.toString();
    }

    private static Pattern villageOf(int persons) {
        if (VILLAGES[persons] == null) {
            StringBuilder two = new StringBuilder();
            for (int p = 0; p < persons; p++) {
                for (int q = 0; q < persons; q++) {
                    if (p != q) {
                        two.append(two.length() == 0 ? "" : "|").append(p).append(q);
                    }
                }
            }
            VILLAGES[persons] = Pattern.compile(
                    " *(?:[pasbgi] *){" + persons + "}(?:x(?:" + two + ")[hct][1-9] *){0,12}");
        }
        return VILLAGES[persons];
    }

    /** Whether a village can begin so: by some number of persons it fits, or would with more signs. */
    private static boolean canBegin(String s) {
        for (int n = 2; n <= 6; n++) {
            Matcher m = villageOf(n).matcher(s);
            if (m.matches() || m.hitEnd()) {
                return true;
            }
        }
        return false;
    }

    private static boolean isWhole(String s) {
        for (int n = 2; n <= 6; n++) {
            if (villageOf(n).matcher(s).matches()) {
                return true;
            }
        }
        return false;
    }

    private static int faultOf(String s) {
        for (int i = 0; i < s.length(); i++) {
            if (!canBegin(s.substring(0, i + 1))) {
                return i;
            }
        }
        return isWhole(s) ? NONE : s.length();
    }

    int fault(int t) {
        if (t < 0 || t > 3) {
            return BAD;
        }
        return texts[t] == null ? find(NOTHING) : faultOf(string(t));
    }

    int village(int t) {
        if (t < 0 || t > 3) {
            return BAD;
        }
        if (texts[t] == null) {
            return find(NOTHING);
        }
        if (faultOf(string(t)) != NONE) {
            return STATE;
        }
        String dense = string(t).replace(" ", "");
        int end = dense.indexOf('x') < 0 ? dense.length() : dense.indexOf('x');
        persons = dense.substring(0, end);
        drafts = new ArrayList<>();
        for (int i = end; i < dense.length(); i += 5) {
            drafts.add(new Draft(dense.charAt(i + 1) - '0', dense.charAt(i + 2) - '0',
                    SORTS.indexOf(dense.charAt(i + 3)), dense.charAt(i + 4) - '0', 0, 0));
        }
        before = new ArrayList<>();
        Arrays.fill(kept, null);
        return persons.length();
    }

    private int owing(int p) {
        return drafts.stream().filter(d -> d.who == p).mapToInt(Draft::counts).sum();
    }

    private int owed(int p, int gone) {
        return drafts.stream().filter(d -> d.to == p && (gone >> d.who & 1) == 0).mapToInt(Draft::counts).sum();
    }

    private int tellPerson(int p, int what) {
        return switch (what) {
            case 0 -> KINDS.indexOf(letter(p));
            case 1 -> owing(p);
            case 2 -> owed(p, 0);
            case 3 -> reserve(p);
            default -> (int) drafts.stream().filter(d -> d.open() && d.who == p).map(Draft::to).distinct().count();
        };
    }

    private int tellDraft(int i, int what) {
        Draft d = drafts.get(i);
        return new int[] {d.who, d.to, d.sort, d.kisses, d.weeks, d.endorsed}[what];
    }

    int person(int p, int what) {
        return isPerson(p) && what >= 0 && what <= 4 ? tell(tellPerson(p, what)) : BAD;
    }

    int draft(int i, int what) {
        return isDraft(i) && what >= 0 && what <= 5 ? tell(tellDraft(i, what)) : BAD;
    }

    int mark(int p, int kind) {
        if (!isPerson(p) || kind < 1 || kind > 5) {
            return BAD;
        }
        String[] fitting = {"", "ag", "s", "bi", "g", "i"};
        if (fitting[kind].indexOf(letter(p)) < 0) {
            return find(UNLIKE);
        }
        long owedOpen = drafts.stream().filter(d -> d.open() && d.to == p).count();
        return switch (kind) {
            case 1 -> (int) owedOpen * (letter(p) == 'g' ? 2 : 1);
            case 2 -> (int) drafts.stream().filter(d -> d.open() && d.who == p).count();
            case 3 -> Math.max(owed(p, 0) + reserve(p) - owing(p), 0);
            case 4 -> (int) drafts.stream().filter(d -> d.open() && d.to == p && d.sort < 2 && d.weeks >= 3).count();
            default -> {
                int in = 0;
                for (int sort = 0; sort < 2; sort++) {
                    for (List<Integer> ring : ringsOf(drafts, sort)) {
                        in += ring.stream().anyMatch(i -> drafts.get(i).who == p) ? 1 : 0;
                    }
                }
                yield in;
            }
        };
    }

    private boolean full(int more) {
        return before.size() + more > 40;
    }

    private void deed() {
        before.add(new ArrayList<>(drafts));
    }

    int owe(int told, int v) {
        if (told < 0 || told > 999 || v < 1 || v > 9) {
            return BAD;
        }
        int who = told / 100;
        int to = told % 100 / 10;
        int sort = told % 10;
        if (!areTwo(who, to) || sort > 2) {
            return BAD;
        }
        if (drafts.size() == 12 || full(1)) {
            return FULL;
        }
        deed();
        drafts.add(new Draft(who, to, sort, v, 0, 0));
        return drafts.size() - 1;
    }

    /** Kiss by kiss, as long as both ways have one: netted and given. */
    private int[] meeting(int p, int q) {
        int netted = 0;
        for (int sort = 0; sort < 2; sort++) {
            int forth = firstOpen(p, q, sort);
            int back = firstOpen(q, p, sort);
            while (forth >= 0 && back >= 0) {
                drafts.set(forth, drafts.get(forth).with(drafts.get(forth).kisses - 1));
                drafts.set(back, drafts.get(back).with(drafts.get(back).kisses - 1));
                netted++;
                forth = firstOpen(p, q, sort);
                back = firstOpen(q, p, sort);
            }
        }
        int given = 0;
        for (int i = 0; i < drafts.size(); i++) {
            Draft d = drafts.get(i);
            if ((d.who == p && d.to == q || d.who == q && d.to == p) && letter(d.who) != 's') {
                given += d.kisses;
                drafts.set(i, d.with(0));
            }
        }
        return new int[] {netted, given};
    }

    private int firstOpen(int p, int q, int sort) {
        for (int i = 0; i < drafts.size(); i++) {
            Draft d = drafts.get(i);
            if (d.open() && d.who == p && d.to == q && d.sort == sort) {
                return i;
            }
        }
        return -1;
    }

    int meet(int p, int q) {
        if (!areTwo(p, q)) {
            return BAD;
        }
        if (full(1)) {
            return FULL;
        }
        deed();
        int[] met = meeting(p, q);
        asked = met[0];
        return met[1];
    }

    int clear(int r) {
        if (r < 0 || r > 5) {
            return BAD;
        }
        if (rows[r] == null) {
            return find(NOTHING);
        }
        if (!Arrays.stream(rows[r]).allMatch(this::isDraft)) {
            return find(UNLIKE);
        }
        List<Integer> told = Arrays.stream(rows[r]).boxed().toList();
        boolean fits = false;
        for (int sort = 0; sort < 2; sort++) {
            for (List<Integer> ring : ringsOf(drafts, sort)) {
                for (int turn = 0; turn < ring.size(); turn++) {
                    List<Integer> turned = new ArrayList<>(ring.subList(turn, ring.size()));
                    turned.addAll(ring.subList(0, turn));
                    fits |= turned.equals(told);
                }
            }
        }
        if (!fits) {
            return STATE;
        }
        if (full(1)) {
            return FULL;
        }
        deed();
        int least = leastOf(drafts, told);
        told.forEach(i -> drafts.set(i, drafts.get(i).with(drafts.get(i).kisses - least)));
        return least;
    }

    int endorse(int i, int p) {
        if (!isDraft(i) || !isPerson(p) || drafts.get(i).who == p) {
            return BAD;
        }
        Draft d = drafts.get(i);
        if (!d.open() || d.endorsed == 2 || d.to == p) {
            return STATE;
        }
        if (full(1)) {
            return FULL;
        }
        deed();
        drafts.set(i, new Draft(d.who, p, d.sort, d.kisses, d.weeks, d.endorsed + 1));
        return d.endorsed + 1;
    }

    int week() {
        if (persons.isEmpty()) {
            return STATE;
        }
        if (full(1)) {
            return FULL;
        }
        deed();
        int sour = 0;
        for (int i = 0; i < drafts.size(); i++) {
            Draft d = drafts.get(i);
            if (!d.open()) {
                continue;
            }
            int more = letter(d.to) == 'a' ? 1 : letter(d.to) == 'g' ? 2 : 0;
            int grown = Math.min(d.kisses + more, 99);
            boolean sours = d.weeks + 1 >= 4 && d.sort != 2;
            sour += sours ? grown : 0;
            drafts.set(i, new Draft(d.who, d.to, d.sort, sours ? 0 : grown, d.weeks + 1, d.endorsed));
        }
        return sour;
    }

    int undo(int n) {
        if (n < 0 || n > before.size()) {
            return BAD;
        }
        int undone = 0;
        while (before.size() > n) {
            drafts = before.remove(before.size() - 1);
            undone++;
        }
        return undone;
    }

    int keep(int k) {
        if (k < 0 || k > 2) {
            return BAD;
        }
        if (persons.isEmpty()) {
            return STATE;
        }
        kept[k] = new Kept(new ArrayList<>(drafts), copyOf(before));
        return before.size();
    }

    private static List<List<Draft>> copyOf(List<List<Draft>> pages) {
        List<List<Draft>> copied = new ArrayList<>();
        pages.forEach(page -> copied.add(new ArrayList<>(page)));
        return copied;
    }

    int on(int k) {
        if (k < 0 || k > 2) {
            return BAD;
        }
        if (kept[k] == null) {
            return find(NOTHING);
        }
        drafts = new ArrayList<>(kept[k].drafts);
        before = copyOf(kept[k].before);
        return before.size();
    }

    int between(int p, int q, int sort) {
        if (!areTwo(p, q) || sort < 0 || sort > 2) {
            return BAD;
        }
        return drafts.stream().filter(d -> d.who == p && d.to == q && d.sort == sort).mapToInt(Draft::kisses).sum();
    }

    private static int leastOf(List<Draft> of, List<Integer> ring) {
        return ring.stream().mapToInt(i -> of.get(i).kisses).min().getAsInt();
    }

    /** Every set of drafts that is one ring, as a row from its least draft on; rows in their order. */
    private static List<List<Integer>> ringsOf(List<Draft> of, int sort) {
        List<List<Integer>> all = new ArrayList<>();
        for (int set = 1; set < 1 << of.size(); set++) {
            int size = Integer.bitCount(set);
            if (size < 3 || size > 6) {
                continue;
            }
            int at = Integer.numberOfTrailingZeros(set);
            List<Integer> row = new ArrayList<>();
            int leavers = 0;
            boolean fits = true;
            for (int i = 0; i < of.size(); i++) {
                if ((set >> i & 1) == 1) {
                    Draft d = of.get(i);
                    fits &= d.open() && d.sort == sort && (leavers >> d.who & 1) == 0;
                    leavers |= 1 << d.who;
                }
            }
            if (!fits) {
                continue;
            }
            int left = set;
            while (at >= 0 && (left >> at & 1) == 1) {
                row.add(at);
                left &= ~(1 << at);
                int to = of.get(at).to;
                at = -1;
                for (int i = 0; i < of.size(); i++) {
                    at = (set >> i & 1) == 1 && of.get(i).who == to ? i : at;
                }
            }
            if (left == 0 && at == row.get(0)) {
                all.add(row);
            }
        }
        all.sort((a, b) -> Arrays.compare(a.stream().mapToInt(i -> i).toArray(), b.stream().mapToInt(i -> i).toArray()));
        return all;
    }

    private static List<Integer> bestOf(List<Draft> of, int sort) {
        List<Integer> best = null;
        for (List<Integer> ring : ringsOf(of, sort)) {
            if (best == null || leastOf(of, ring) * ring.size() > leastOf(of, best) * best.size()) {
                best = ring;
            }
        }
        return best;
    }

    int all(int sort) {
        if (sort < 0 || sort > 1) {
            return BAD;
        }
        List<Integer> best = bestOf(drafts, sort);
        asked = best == null ? 0 : leastOf(drafts, best) * best.size();
        return ringsOf(drafts, sort).size();
    }

    int ring(int sort, int r) {
        if (sort < 0 || sort > 1 || r < 0 || r > 5) {
            return BAD;
        }
        List<Integer> best = bestOf(drafts, sort);
        if (best == null) {
            return NONE;
        }
        rows[r] = best.stream().mapToInt(i -> i).toArray();
        return leastOf(drafts, best);
    }

    int net(int sort) {
        if (sort < 0 || sort > 2) {
            return BAD;
        }
        int[] more = new int[6];
        for (Draft d : drafts) {
            if (d.sort == sort) {
                more[d.who] += d.kisses;
                more[d.to] -= d.kisses;
            }
        }
        return Arrays.stream(more).filter(v -> v > 0).sum();
    }

    int left(int sort) {
        if (sort < 0 || sort > 1) {
            return BAD;
        }
        List<Draft> tried = new ArrayList<>(drafts);
        int cleared = 0;
        for (List<Integer> best = bestOf(tried, sort); best != null; best = bestOf(tried, sort)) {
            int least = leastOf(tried, best);
            best.forEach(i -> tried.set(i, tried.get(i).with(tried.get(i).kisses - least)));
            cleared++;
        }
        asked = cleared;
        return tried.stream().filter(d -> d.sort == sort).mapToInt(Draft::kisses).sum();
    }

    /** All who fall fall at once, round by round; one has so much more of a reserve. */
    private int falling(int bounced, int helped, int help) {
        int gone = 1 << bounced;
        while (true) {
            int more = 0;
            for (int p = 0; p < persons.length(); p++) {
                int holds = owed(p, gone) + reserve(p) + (p == helped ? help : 0);
                if ((gone >> p & 1) == 0 && owing(p) > holds) {
                    more |= 1 << p;
                }
            }
            if (more == 0) {
                return gone ^ 1 << bounced;
            }
            gone |= more;
        }
    }

    int falls(int p) {
        return isPerson(p) ? falling(p, -1, 0) : BAD;
    }

    int worst() {
        if (persons.isEmpty()) {
            return STATE;
        }
        for (int most = 6; most >= 0; most--) {
            for (int p = 0; p < persons.length(); p++) {
                if (Integer.bitCount(falling(p, -1, 0)) == most) {
                    asked = most;
                    return p;
                }
            }
        }
        throw new IllegalStateException();
    }

    int saved(int p, int q) {
        if (!areTwo(p, q)) {
            return BAD;
        }
        for (int help = 0; help <= 200; help++) {
            if ((falling(q, p, help) >> p & 1) == 0) {
                return help;
            }
        }
        return NONE;
    }

    private List<Integer> pairList() {
        List<Integer> all = new ArrayList<>();
        for (int p = 0; p < 6; p++) {
            for (int q = p + 1; q < 6; q++) {
                int one = p;
                int other = q;
                if (drafts.stream().anyMatch(d -> d.open() && (d.who == one && d.to == other || d.who == other && d.to == one))) {
                    all.add(10 * p + q);
                }
            }
        }
        return all;
    }

    int pairs() {
        List<Draft> was = new ArrayList<>(drafts);
        int given = 0;
        for (int pair : pairList()) {
            given += meeting(pair / 10, pair % 10)[1];
        }
        drafts = was;
        asked = given;
        return pairList().size();
    }

    int rounds() {
        return ROUNDS_KNOWN.computeIfAbsent(pairList(), Model::fewestRounds);
    }

    /** For each set of pairs: one round more than what is left without one of the sets that can meet at once. */
    static int fewestRounds(List<Integer> pairs) {
        int n = pairs.size();
        boolean[] atOnce = new boolean[1 << n];
        for (int set = 0; set < 1 << n; set++) {
            int busy = 0;
            atOnce[set] = true;
            for (int i = 0; i < n; i++) {
                if ((set >> i & 1) == 1) {
                    int two = 1 << pairs.get(i) / 10 | 1 << pairs.get(i) % 10;
                    atOnce[set] &= (busy & two) == 0;
                    busy |= two;
                }
            }
        }
        int[] fewest = new int[1 << n];
        for (int set = 1; set < 1 << n; set++) {
            fewest[set] = 99;
            for (int part = set; part > 0; part = part - 1 & set) {
                if (atOnce[part]) {
                    fewest[set] = Math.min(fewest[set], 1 + fewest[set ^ part]);
                }
            }
        }
        return fewest[(1 << n) - 1];
    }

    int mistletoe() {
        if (persons.isEmpty()) {
            return STATE;
        }
        int first = -1;
        int most = -1;
        for (int p = 0; p < persons.length(); p++) {
            int one = p;
            int was = drafts.stream().mapToInt(Draft::kisses).sum();
            int is = drafts.stream().mapToInt(d -> d.who == one || d.to == one ? d.kisses / 2 : d.kisses).sum();
            if (was - is > most) {
                most = was - is;
                first = p;
            }
        }
        asked = most;
        return first;
    }

    int gain(int r) {
        if (r < 0 || r > 5) {
            return BAD;
        }
        if (rows[r] == null) {
            return find(NOTHING);
        }
        if (rows[r].length != 6) {
            return find(SIZE);
        }
        if (!Arrays.stream(rows[r]).allMatch(v -> v >= 1 && v <= 9999)) {
            return find(UNLIKE);
        }
        int[][] rate = {{0, rows[r][0], rows[r][1]}, {rows[r][2], 0, rows[r][3]}, {rows[r][4], rows[r][5], 0}};
        int[][] ways = {{0, 1}, {0, 2}, {1, 2}, {0, 1, 2}, {0, 2, 1}};
        for (int w = 0; w < ways.length; w++) {
            long product = 1;
            long even = 1;
            for (int i = 0; i < ways[w].length; i++) {
                product *= rate[ways[w][i]][ways[w][(i + 1) % ways[w].length]];
                even *= 100;
            }
            if (product > even) {
                return w;
            }
        }
        return NONE;
    }

    private boolean leads(int p, int q, int drafts) {
        if (drafts == 0) {
            return p == q;
        }
        return this.drafts.stream().anyMatch(d -> d.open() && d.who == p && leads(d.to, q, drafts - 1));
    }

    int trust(int p, int q) {
        if (!areTwo(p, q)) {
            return BAD;
        }
        return leads(p, q, 1) ? 1 : leads(p, q, 2) ? 2 : leads(p, q, 3) ? 3 : NONE;
    }

    private List<Integer> fitting(int r) {
        List<Integer> sets = new ArrayList<>();
        for (int set = 0; set < 1 << drafts.size(); set++) {
            int[] blush = new int[persons.length()];
            boolean open = true;
            for (int i = 0; i < drafts.size(); i++) {
                if ((set >> i & 1) == 1) {
                    open &= drafts.get(i).open();
                    blush[drafts.get(i).who] += drafts.get(i).kisses;
                    blush[drafts.get(i).to] += drafts.get(i).kisses;
                }
            }
            if (open && Arrays.equals(blush, rows[r])) {
                sets.add(set);
            }
        }
        return sets;
    }

    private int blushesRefused(int r) {
        if (r < 0 || r > 5) {
            return BAD;
        }
        if (persons.isEmpty()) {
            return STATE;
        }
        if (rows[r] == null) {
            return find(NOTHING);
        }
        return rows[r].length != persons.length() ? find(SIZE) : 0;
    }

    int blushes(int r) {
        int refused = blushesRefused(r);
        if (refused != 0) {
            return refused;
        }
        List<Integer> sets = fitting(r);
        asked = sets.isEmpty() ? NONE : sets.get(0);
        return sets.size();
    }

    int sure(int r) {
        int refused = blushesRefused(r);
        if (refused != 0) {
            return refused;
        }
        return fitting(r).stream().reduce((a, b) -> a & b).orElse(0);
    }

    int odds() {
        if (persons.isEmpty()) {
            return STATE;
        }
        upper = 0;
        lower = persons.length();
        for (int p = 0; p < persons.length(); p++) {
            upper += falling(p, -1, 0) == 0 ? 1 : 0;
        }
        long common = java.math.BigInteger.valueOf(upper).gcd(java.math.BigInteger.valueOf(lower)).longValue();
        upper /= common;
        lower /= common;
        return 1;
    }

    int lots(int n, int seed) {
        if (n < 1 || n > 20 || seed < 1 || seed > 2147483646) {
            return BAD;
        }
        if (persons.isEmpty()) {
            return STATE;
        }
        if (full(n)) {
            return FULL;
        }
        int size = persons.length();
        int given = 0;
        long lot = seed;
        for (int i = 0; i < n; i++) {
            lot = lot * 48271 % 2147483647;
            int one = (int) (lot % size);
            int further = 1 + (int) (lot / 32 % (size - 1));
            deed();
            given += meeting(one, (one + further) % size)[1];
        }
        return given;
    }

    private static int there(Object[] all) {
        return (int) Arrays.stream(all).filter(one -> one != null).count();
    }

    int count(int what) {
        return switch (what) {
            case 0 -> persons.length();
            case 1 -> drafts.size();
            case 2 -> before.size();
            case 3 -> (int) drafts.stream().filter(Draft::open).count();
            case 4 -> drafts.stream().mapToInt(Draft::kisses).sum();
            case 5 -> (int) persons.chars().filter(c -> c == 'a' || c == 'g').count();
            case 6 -> there(rows);
            case 7 -> there(texts);
            case 8 -> there(kept);
            default -> BAD;
        };
    }

    int findings(int f) {
        return f >= 1 && f <= 5 ? found[f] : BAD;
    }

    long digest() {
        List<Integer> all = new ArrayList<>();
        for (int what = 0; what <= 8; what++) {
            all.add(count(what));
        }
        for (int p = 0; p < persons.length(); p++) {
            for (int what = 0; what <= 4; what++) {
                all.add(tellPerson(p, what));
            }
        }
        for (int i = 0; i < drafts.size(); i++) {
            for (int what = 0; what <= 5; what++) {
                all.add(tellDraft(i, what));
            }
        }
        for (Kept one : kept) {
            all.add(one == null ? -1 : one.before.size());
        }
        for (int[] row : rows) {
            all.add(row == null ? -1 : row.length);
            Arrays.stream(row == null ? new int[0] : row).forEach(all::add);
        }
        for (byte[] text : texts) {
            all.add(text == null ? -1 : text.length);
            for (byte b : text == null ? new byte[0] : text) {
                all.add((int) b);
            }
        }
        long h = 17;
        for (int v : all) {
            h = 31 * h + v;
        }
        return h;
    }
}
