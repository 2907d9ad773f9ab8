import java.util.Arrays;

/**
 * Whose track lies over whose: tracks in the snow of a pass, the crossings that tell who went
 * ahead of whom, and what follows from them.
 *
 * All rows that a call needs are made with the object and used again: no call makes an object.
 */
public final class SnowTracks {
    public static final int BAD = -1, FULL = -2, FINDING = -3, STATE = -4, SPENT = -6, NONE = -9;

    private static final int ROWS = 6, ROW_PLACES = 40, TEXTS = 4, TEXT_BYTES = 80;
    private static final int TRACKS = 7, CROSSINGS = 16, KEPT = 3, CLAIMS = 8, WALKS = 16;
    /** How many sets of tracks there are at most; a set is told by bits. */
    private static final int SETS = 1 << TRACKS;

    private static final int NOTHING = 1, BEYOND = 2, UNLIKE = 3, NOUGHT = 4, SIZE = 5;

    private static final int FOOT = 0, HEAVY = 1, HARE = 2, TWICE = 3, CART = 4, LEVERET = 5;

    /** A fill that is not seen, as fill() takes and answers it. */
    private static final int UNSEEN = 10;
    /** By so much one fill has to be greater for the wind to tell. */
    private static final int WIND_STEP = 2;

    private static final int BLANK = 32, MINUS = 45, NIL = 48, OVER_SIGN = 62;
    /** What stands behind a text's end: no byte is so great. */
    private static final int NO_SIGN = 256;
    private static final int ITEM_BYTES = 3;

    private static final long LOT_FACTOR = 48271L, LOT_MODULUS = 2147483647L;
    private static final int LOT_PART = 64;

    /** A crossing counts as this much more than any set of crossings, so the fewest come first. */
    private static final int CROSSING_WEIGHT = 1 << CROSSINGS;
    private static final int CLAIM_WEIGHT = 1 << CLAIMS;
    /** Above every weight of all crossings together. */
    private static final int TOO_HEAVY = 1 << 28;

    private final Shelf rows = new Shelf(ROWS, ROW_PLACES, 0);
    private final Shelf texts = new Shelf(TEXTS, TEXT_BYTES, BLANK);
    private final Pass now = new Pass();
    private final Reader reader = new Reader();
    private final Pass[] kept = new Pass[KEPT];
    private final Graph graph = new Graph();
    private final Dropping dropping = new Dropping();
    private final People folk = new People();

    private int told = 0;
    private long toldUpper = 0L;
    private long toldLower = 1L;
    private int latestFinding = 0;
    private final int[] findingCounts = new int[SIZE + 1];

    public SnowTracks() {
        for (int k = 0; k < KEPT; k++) {
            kept[k] = new Pass();
        }
    }

    // ---- 1 rows, texts, passes

    public int row(int r, int n) {
        if (!rows.isNumber(r) || n > ROW_PLACES) {
            return BAD;
        }
        if (n < 0) {
            return refuse(SIZE);
        }
        rows.make(r, n);
        return n;
    }

    public int lay(int r, int i, int v) {
        int answer = tellPlace(r, i);
        if (answer == 1) {
            rows.ints[r][i] = v;
        }
        return answer;
    }

    public int at(int r, int i) {
        return tellPlace(r, i);
    }

    public int tear(int r) {
        if (!rows.isNumber(r)) {
            return BAD;
        }
        if (!rows.isThere(r)) {
            return refuse(NOTHING);
        }
        rows.sizes[r] = -1;
        return 1;
    }

    public int copy(int r, int i, int to, int j, int n) {
        if (!rows.isNumber(r) || !rows.isNumber(to)) {
            return BAD;
        }
        if (n < 0) {
            return refuse(SIZE);
        }
        if (!rows.isThere(r) || !rows.isThere(to)) {
            return refuse(NOTHING);
        }
        if (!rows.hasPlaces(r, i, n) || !rows.hasPlaces(to, j, n)) {
            return refuse(BEYOND);
        }
        System.arraycopy(rows.ints[r], i, rows.ints[to], j, n);
        return 1;
    }

    public int mean(int r) {
        if (!rows.isNumber(r)) {
            return BAD;
        }
        if (!rows.isThere(r)) {
            return refuse(NOTHING);
        }
        int size = rows.sizes[r];
        if (size <= 0) {
            return refuse(NOUGHT);
        }
        told = (int) (rows.sum(r) / size);
        return 1;
    }

    public int text(int t, int n) {
        if (!texts.isNumber(t) || n > TEXT_BYTES) {
            return BAD;
        }
        if (n < 0) {
            return refuse(SIZE);
        }
        texts.make(t, n);
        return n;
    }

    public int put(int t, int i, int v) {
        if (!texts.isNumber(t)) {
            return BAD;
        }
        if (!texts.isThere(t)) {
            return refuse(NOTHING);
        }
        if (!texts.hasPlace(t, i)) {
            return refuse(BEYOND);
        }
        int was = texts.ints[t][i];
        texts.ints[t][i] = (byte) v;
        return was + 1000;
    }

    public int fault(int t) {
        if (!texts.isNumber(t)) {
            return BAD;
        }
        if (!texts.isThere(t)) {
            return refuse(NOTHING);
        }
        return reader.read(texts.ints[t], texts.sizes[t]);
    }

    public int pass(int t) {
        if (!texts.isNumber(t)) {
            return BAD;
        }
        if (!texts.isThere(t)) {
            return refuse(NOTHING);
        }
        if (reader.read(texts.ints[t], texts.sizes[t]) != NONE) {
            return STATE;
        }
        reader.draft.wind = now.wind;
        now.takeFrom(reader.draft);
        for (int k = 0; k < KEPT; k++) {
            kept[k].clear();
        }
        return now.tracks;
    }

    public int track(int i, int what) {
        if (!now.isTrack(i) || what < 0 || what > 4) {
            return BAD;
        }
        told = now.ofTrack(i, what);
        return 1;
    }

    public int crossing(int k) {
        if (k < 0) {
            return BAD;
        }
        if (k >= now.crossings) {
            return refuse(BEYOND);
        }
        told = now.tells(k) ? 1 : 0;
        return now.pairOf(k);
    }

    public int mark(int i, int kind) {
        if (!now.isTrack(i) || kind < HEAVY || kind > LEVERET) {
            return BAD;
        }
        if (!now.isOfKind(i, kind)) {
            return refuse(UNLIKE);
        }
        switch (kind) {
            case HEAVY:
                return now.silentAt(now.overs, i);
            case HARE:
                return now.silentAt(now.beneaths, i);
            case TWICE:
                return Integer.bitCount(now.tracksCrossed(i));
            case CART:
                return now.haresUnder(i);
            default:
                return now.ofKind(HARE) - 1;
        }
    }

    public int wind(int v) {
        if (v < 0 || v > 1) {
            return BAD;
        }
        int was = now.wind;
        now.wind = v;
        return was;
    }

    public int fill(int i, int v) {
        if (!now.isTrack(i) || v < 0 || v > UNSEEN) {
            return BAD;
        }
        int was = now.fills[i];
        now.fills[i] = v;
        return was;
    }

    public int cross(int over, int beneath) {
        if (!now.areTwo(over, beneath)) {
            return BAD;
        }
        if (now.crossings >= CROSSINGS) {
            return FULL;
        }
        now.addCrossing(over, beneath);
        return now.crossings - 1;
    }

    public int snow(int n) {
        if (n < 0 || n > now.crossings) {
            return BAD;
        }
        int gone = now.crossings - n;
        now.crossings = n;
        return gone;
    }

    public int keep(int k) {
        if (k < 0 || k >= KEPT) {
            return BAD;
        }
        if (now.tracks == 0) {
            return STATE;
        }
        kept[k].takeFrom(now);
        return now.crossings;
    }

    public int on(int k) {
        if (k < 0 || k >= KEPT) {
            return BAD;
        }
        if (!isKept(k)) {
            return refuse(NOTHING);
        }
        now.takeFrom(kept[k]);
        return now.crossings;
    }

    // ---- 2 orders

    public int ahead(int i, int j) {
        if (!now.areTwo(i, j)) {
            return BAD;
        }
        graph.takeAll(now);
        return has(graph.before[j], i) ? 1 : 0;
    }

    public int orders() {
        graph.takeAll(now);
        graph.countOnward();
        tellFraction(graph.onward[0], 1L);
        return 1;
    }

    public int first(int r) {
        if (!rows.isNumber(r)) {
            return BAD;
        }
        graph.takeAll(now);
        graph.countOnward();
        if (graph.onward[0] == 0) {
            return NONE;
        }
        layOrder(0, r);
        return 1;
    }

    public int nth(int i, int r) {
        if (i < 0 || !rows.isNumber(r)) {
            return BAD;
        }
        graph.takeAll(now);
        graph.countOnward();
        if (i >= graph.onward[0]) {
            return refuse(NOUGHT);
        }
        layOrder(i, r);
        return 1;
    }

    public int sure(int i, int j) {
        if (!now.areTwo(i, j)) {
            return BAD;
        }
        if (closesToRing()) {
            return refuse(NOUGHT);
        }
        if (has(graph.after[i], j)) {
            return 1;
        }
        return has(graph.after[j], i) ? 2 : 0;
    }

    public int odds(int i, int j) {
        if (!now.areTwo(i, j)) {
            return BAD;
        }
        if (closesToRing()) {
            return refuse(NOUGHT);
        }
        graph.countOnward();
        graph.countCome();
        tellFraction(graph.ordersWith(i, j), graph.onward[0]);
        return 1;
    }

    public int place(int i) {
        if (!now.isTrack(i)) {
            return BAD;
        }
        if (closesToRing()) {
            return refuse(NOUGHT);
        }
        told = now.tracks - 1 - Integer.bitCount(graph.after[i]);
        return Integer.bitCount(graph.surelyAheadOf(i));
    }

    public int judge(int r) {
        if (!rows.isNumber(r)) {
            return BAD;
        }
        int finding = findingOfOrder(r);
        if (finding != 0) {
            return refuse(finding);
        }
        int firstAgainst = now.crossings;
        int against = 0;
        for (int k = now.crossings - 1; k >= 0; k--) {
            if (now.tells(k) && rows.indexOf(r, now.overs[k]) < rows.indexOf(r, now.beneaths[k])) {
                firstAgainst = k;
                against++;
            }
        }
        told = against;
        return firstAgainst;
    }

    public int meet(int i, int j) {
        if (!now.areTwo(i, j)) {
            return BAD;
        }
        if (closesToRing()) {
            return refuse(NOUGHT);
        }
        int between = graph.after[i] & graph.surelyAheadOf(j) | graph.after[j] & graph.surelyAheadOf(i);
        return between == 0 ? 1 : 0;
    }

    public int chain(int i) {
        if (!now.isTrack(i)) {
            return BAD;
        }
        if (closesToRing()) {
            return refuse(NOUGHT);
        }
        told = graph.layersOf(graph.after[i] | 1 << i);
        return graph.layersOf(graph.surelyAheadOf(i) | 1 << i);
    }

    // ---- 3 rings, looks, hiding

    public int ring(int r) {
        if (!rows.isNumber(r)) {
            return BAD;
        }
        graph.takeAll(now);
        int size = graph.findRing();
        if (size == 0) {
            return NONE;
        }
        rows.make(r, size);
        for (int i = 0; i < size; i++) {
            rows.ints[r][i] = graph.ringTracks[i];
        }
        return size;
    }

    public int wrong() {
        graph.clear(now.tracks);
        graph.addWind(now);
        dropping.clear();
        for (int k = 0; k < now.crossings; k++) {
            if (now.tells(k)) {
                dropping.addPair(now.beneaths[k], now.overs[k], CROSSING_WEIGHT + (1 << k));
            }
        }
        int weight = dropping.leastWeight(graph);
        told = weight % CROSSING_WEIGHT;
        return weight / CROSSING_WEIGHT;
    }

    public int twice() {
        graph.takeAll(now);
        int all = (1 << now.tracks) - 1;
        int fewest = all;
        for (int set = 0; set <= all; set++) {
            if (Integer.bitCount(set) < Integer.bitCount(fewest) && graph.layersOf(all & ~set) >= 0) {
                fewest = set;
            }
        }
        told = fewest;
        return Integer.bitCount(fewest);
    }

    public int look() {
        if (closesToRing()) {
            return refuse(NOUGHT);
        }
        graph.countOnward();
        graph.countCome();
        int best = NONE;
        int fewest = 0;
        for (int i = 0; i < now.tracks; i++) {
            for (int j = i + 1; j < now.tracks; j++) {
                if (has(graph.after[i] | graph.surelyAheadOf(i), j)) {
                    continue;
                }
                int with = graph.ordersWith(i, j);
                int left = Math.max(with, graph.onward[0] - with);
                if (best == NONE || left < fewest) {
                    best = 10 * i + j;
                    fewest = left;
                }
            }
        }
        if (best != NONE) {
            told = fewest;
        }
        return best;
    }

    public int hide(int i, int j) {
        if (!now.areTwo(i, j)) {
            return BAD;
        }
        graph.clear(now.tracks);
        graph.addCrossings(now);
        if (graph.layersOf(graph.all) < 0) {
            return refuse(NOUGHT);
        }
        int fewest = CROSSINGS;
        for (int set = 0; set <= graph.all; set++) {
            if (has(set, i) && !has(set, j)) {
                fewest = Math.min(fewest, now.tellingOutOf(set));
            }
        }
        return fewest;
    }

    // ---- 4 people, stories

    public int people() {
        folk.take(now);
        told = folk.mostWith(0);
        return folk.fewest();
    }

    public int story(int r) {
        if (!rows.isNumber(r)) {
            return BAD;
        }
        int finding = findingOfClaims(r);
        if (finding != 0) {
            return refuse(finding);
        }
        int claims = rows.sizes[r];
        for (int k = 0; k < claims; k++) {
            int who = aheadByClaim(r, k);
            int whom = behindByClaim(r, k);
            if (has(graph.after[whom], who)) {
                return k;
            }
            graph.addSure(who, whom);
        }
        return claims;
    }

    public int hold(int r) {
        if (!rows.isNumber(r)) {
            return BAD;
        }
        int finding = findingOfClaims(r);
        if (finding != 0) {
            return refuse(finding);
        }
        int claims = rows.sizes[r];
        dropping.clear();
        for (int k = 0; k < claims; k++) {
            // The least set that holds leaves out the greatest one, so greater bits weigh less.
            dropping.addPair(aheadByClaim(r, k), behindByClaim(r, k), CLAIM_WEIGHT - (1 << k));
        }
        int weight = dropping.leastWeight(graph);
        int dropped = (weight + CLAIM_WEIGHT - 1) / CLAIM_WEIGHT;
        int droppedSet = dropped * CLAIM_WEIGHT - weight;
        told = (1 << claims) - 1 - droppedSet;
        return claims - dropped;
    }

    public int believe(int r) {
        if (!rows.isNumber(r)) {
            return BAD;
        }
        int finding = findingOfClaims(r);
        if (finding != 0) {
            return refuse(finding);
        }
        graph.countOnward();
        int allOrders = graph.onward[0];
        for (int k = 0; k < rows.sizes[r]; k++) {
            graph.before[behindByClaim(r, k)] |= 1 << aheadByClaim(r, k);
        }
        graph.countOnward();
        tellFraction(graph.onward[0], allOrders);
        return 1;
    }

    // ---- 5 walks

    public int walks(int r, int n, int seed) {
        if (!rows.isNumber(r) || n < 1 || n > WALKS || seed < 1 || seed >= LOT_MODULUS) {
            return BAD;
        }
        if (now.tracks < 2) {
            return STATE;
        }
        int finding = findingOfOrder(r);
        if (finding != 0) {
            return refuse(finding);
        }
        int were = now.crossings;
        long lot = seed;
        for (int i = 0; i < n; i++) {
            lot = lot * LOT_FACTOR % LOT_MODULUS;
            walk(r, (int) (lot % now.tracks), (int) (lot / LOT_PART % now.tracks));
        }
        return now.crossings - were;
    }

    // ---- 6 what is told

    public int asked() {
        return told;
    }

    public long upper() {
        return toldUpper;
    }

    public long lower() {
        return toldLower;
    }

    public int count(int what) {
        if (what < 0 || what > 7) {
            return BAD;
        }
        return howMany(what);
    }

    public int finding() {
        return latestFinding;
    }

    public int findings(int f) {
        if (f < NOTHING || f > SIZE) {
            return BAD;
        }
        return findingCounts[f];
    }

    public long digest() {
        long h = 17L;
        for (int what = 0; what <= 7; what++) {
            h = 31L * h + howMany(what);
        }
        h = 31L * h + now.wind;
        for (int i = 0; i < now.tracks; i++) {
            for (int what = 0; what <= 4; what++) {
                h = 31L * h + now.ofTrack(i, what);
            }
        }
        for (int k = 0; k < now.crossings; k++) {
            h = 31L * h + now.pairOf(k);
        }
        for (int k = 0; k < KEPT; k++) {
            h = 31L * h + (isKept(k) ? kept[k].crossings : -1);
        }
        return texts.addTo(rows.addTo(h));
    }

    // ---- what the calls share

    private int refuse(int finding) {
        latestFinding = finding;
        findingCounts[finding]++;
        return FINDING;
    }

    private int tellPlace(int r, int i) {
        if (!rows.isNumber(r)) {
            return BAD;
        }
        if (!rows.isThere(r)) {
            return refuse(NOTHING);
        }
        if (!rows.hasPlace(r, i)) {
            return refuse(BEYOND);
        }
        told = rows.ints[r][i];
        return 1;
    }

    private static boolean has(int set, int i) {
        return (set >> i & 1) != 0;
    }

    /** A pass is kept only with tracks, so one without them is missing. */
    private boolean isKept(int k) {
        return kept[k].tracks > 0;
    }

    private int howMany(int what) {
        switch (what) {
            case 0:
                return now.tracks;
            case 1:
                return now.crossings;
            case 2:
                return now.telling();
            case 3:
                return now.ofKind(HEAVY);
            case 4:
                return now.ofKind(HARE);
            case 5:
                return keptPasses();
            case 6:
                return rows.there();
            default:
                return texts.there();
        }
    }

    private int keptPasses() {
        int c = 0;
        for (int k = 0; k < KEPT; k++) {
            if (isKept(k)) {
                c++;
            }
        }
        return c;
    }

    private void tellFraction(long up, long low) {
        long a = up;
        long b = low;
        // Sixty-four steps are enough for Euclid: neither number is above 7!.
        for (int step = 0; step < 64 && b != 0L; step++) {
            long rest = a % b;
            a = b;
            b = rest;
        }
        if (a > 0L) {
            toldUpper = up / a;
            toldLower = low / a;
        }
    }

    /** Takes the pass into the graph with all that is sure; whether there is a ring. */
    private boolean closesToRing() {
        graph.takeAll(now);
        graph.close();
        return graph.layersOf(graph.all) < 0;
    }

    private void layOrder(int number, int r) {
        graph.findOrder(number);
        rows.make(r, now.tracks);
        for (int i = 0; i < now.tracks; i++) {
            rows.ints[r][i] = graph.orderTracks[i];
        }
    }

    /** What keeps a row from being all tracks in some order (a finding; 0: nothing does). */
    private int findingOfOrder(int r) {
        if (!rows.isThere(r)) {
            return NOTHING;
        }
        if (rows.sizes[r] != now.tracks) {
            return SIZE;
        }
        int seen = 0;
        for (int i = 0; i < now.tracks; i++) {
            int v = rows.ints[r][i];
            if (!now.isTrack(v) || has(seen, v)) {
                return UNLIKE;
            }
            seen |= 1 << v;
        }
        return 0;
    }

    /** What keeps a row from being claims (a finding; 0: nothing does, and the graph is closed). */
    private int findingOfClaims(int r) {
        if (!rows.isThere(r)) {
            return NOTHING;
        }
        if (rows.sizes[r] > CLAIMS) {
            return SIZE;
        }
        for (int k = 0; k < rows.sizes[r]; k++) {
            if (rows.ints[r][k] < 0 || !now.areTwo(aheadByClaim(r, k), behindByClaim(r, k))) {
                return UNLIKE;
            }
        }
        return closesToRing() ? NOUGHT : 0;
    }

    /** Who is said to have gone ahead. */
    private int aheadByClaim(int r, int k) {
        return rows.ints[r][k] / 10;
    }

    /** Of whom. */
    private int behindByClaim(int r, int k) {
        return rows.ints[r][k] % 10;
    }

    private void walk(int r, int i, int j) {
        if (i == j || now.crossings >= CROSSINGS) {
            return;
        }
        if (rows.indexOf(r, i) > rows.indexOf(r, j)) {
            now.addCrossing(i, j);
        } else {
            now.addCrossing(j, i);
        }
    }

    /** Rows or texts (of bytes, as ints); a size of -1 tells that one is missing. */
    private static final class Shelf {
        final int[][] ints;
        final int[] sizes;
        /** What stands at each place of a new one. */
        private final int blank;

        Shelf(int number, int places, int blank) {
            ints = new int[number][places];
            sizes = new int[number];
            Arrays.fill(sizes, -1);
            this.blank = blank;
        }

        boolean isNumber(int r) {
            return r >= 0 && r < sizes.length;
        }

        boolean isThere(int r) {
            return sizes[r] >= 0;
        }

        boolean hasPlace(int r, int i) {
            return i >= 0 && i < sizes[r];
        }

        boolean hasPlaces(int r, int from, int n) {
            return from >= 0 && n <= sizes[r] && from <= sizes[r] - n;
        }

        void make(int r, int n) {
            Arrays.fill(ints[r], blank);
            sizes[r] = n;
        }

        long sum(int r) {
            long s = 0L;
            for (int i = 0; i < sizes[r]; i++) {
                s += ints[r][i];
            }
            return s;
        }

        /** The first place of a value (the row's size: it is not in it). */
        int indexOf(int r, int v) {
            for (int i = 0; i < sizes[r]; i++) {
                if (ints[r][i] == v) {
                    return i;
                }
            }
            return sizes[r];
        }

        int there() {
            int c = 0;
            for (int r = 0; r < sizes.length; r++) {
                if (isThere(r)) {
                    c++;
                }
            }
            return c;
        }

        long addTo(long digest) {
            long h = digest;
            for (int r = 0; r < sizes.length; r++) {
                h = 31L * h + sizes[r];
                for (int i = 0; i < sizes[r]; i++) {
                    h = 31L * h + ints[r][i];
                }
            }
            return h;
        }
    }

    /** Tracks and crossings, with the wind. */
    private static final class Pass {
        int tracks = 0;
        int crossings = 0;
        int wind = 0;
        final int[] kinds = new int[TRACKS];
        final int[] sizes = new int[TRACKS];
        final int[] fills = new int[TRACKS];
        final int[] overs = new int[CROSSINGS];
        final int[] beneaths = new int[CROSSINGS];

        void clear() {
            tracks = 0;
            crossings = 0;
        }

        void takeFrom(Pass p) {
            tracks = p.tracks;
            crossings = p.crossings;
            wind = p.wind;
            System.arraycopy(p.kinds, 0, kinds, 0, TRACKS);
            System.arraycopy(p.sizes, 0, sizes, 0, TRACKS);
            System.arraycopy(p.fills, 0, fills, 0, TRACKS);
            System.arraycopy(p.overs, 0, overs, 0, CROSSINGS);
            System.arraycopy(p.beneaths, 0, beneaths, 0, CROSSINGS);
        }

        void addTrack(int kind, int size, int filled) {
            if (tracks < TRACKS) {
                kinds[tracks] = kind;
                sizes[tracks] = size;
                fills[tracks] = filled;
                tracks++;
            }
        }

        void addCrossing(int over, int beneath) {
            if (crossings < CROSSINGS) {
                overs[crossings] = over;
                beneaths[crossings] = beneath;
                crossings++;
            }
        }

        boolean isTrack(int i) {
            return i >= 0 && i < tracks;
        }

        boolean areTwo(int i, int j) {
            return isTrack(i) && isTrack(j) && i != j;
        }

        boolean isOfKind(int i, int kind) {
            return isSuch(kinds[i], kind);
        }

        /** Whether what is of one kind is of the other one, too. */
        private static boolean isSuch(int kind, int wanted) {
            switch (wanted) {
                case FOOT:
                    return true;
                case HEAVY:
                    return kind == HEAVY || kind == CART;
                case HARE:
                    return kind == HARE || kind == LEVERET;
                default:
                    return kind == wanted;
            }
        }

        int ofKind(int kind) {
            int c = 0;
            for (int i = 0; i < tracks; i++) {
                if (isOfKind(i, kind)) {
                    c++;
                }
            }
            return c;
        }

        /** What track() tells of a track. */
        int ofTrack(int i, int what) {
            switch (what) {
                case 0:
                    return kinds[i];
                case 1:
                    return sizes[i];
                case 2:
                    return fills[i] == UNSEEN ? NONE : fills[i];
                case 3:
                    return timesIn(overs, i);
                default:
                    return timesIn(beneaths, i);
            }
        }

        private int timesIn(int[] ends, int i) {
            int c = 0;
            for (int k = 0; k < crossings; k++) {
                if (ends[k] == i) {
                    c++;
                }
            }
            return c;
        }

        int pairOf(int k) {
            return 10 * overs[k] + beneaths[k];
        }

        boolean tells(int k) {
            int over = kinds[overs[k]];
            int beneath = kinds[beneaths[k]];
            return tellsAsOver(over, beneath) && tellsAsBeneath(beneath, over);
        }

        private static boolean tellsAsOver(int over, int beneath) {
            switch (over) {
                case HEAVY:
                case TWICE:
                    return false;
                case CART:
                    return beneath == HARE || beneath == LEVERET;
                case LEVERET:
                    return beneath == FOOT;
                default:
                    return true;
            }
        }

        private static boolean tellsAsBeneath(int beneath, int over) {
            switch (beneath) {
                case TWICE:
                    return false;
                case HARE:
                case LEVERET:
                    return over == CART;
                default:
                    return true;
            }
        }

        int telling() {
            int c = 0;
            for (int k = 0; k < crossings; k++) {
                if (tells(k)) {
                    c++;
                }
            }
            return c;
        }

        /** How many crossings tell that one of a set went ahead of one outside it. */
        int tellingOutOf(int set) {
            int c = 0;
            for (int k = 0; k < crossings; k++) {
                if (tells(k) && has(set, beneaths[k]) && !has(set, overs[k])) {
                    c++;
                }
            }
            return c;
        }

        /** Whether the wind tells that one went ahead of another one. */
        boolean windTells(int i, int j) {
            boolean wentOnce = kinds[i] != TWICE && kinds[j] != TWICE;
            boolean seen = fills[i] != UNSEEN && fills[j] != UNSEEN;
            return wind == 1 && wentOnce && seen && fills[i] - fills[j] >= WIND_STEP;
        }

        /** In how many crossings that do not tell a track is at one end (overs or beneaths). */
        int silentAt(int[] ends, int i) {
            int c = 0;
            for (int k = 0; k < crossings; k++) {
                if (ends[k] == i && !tells(k)) {
                    c++;
                }
            }
            return c;
        }

        /** The set of those at the other ends of crossings where a track is at one end. */
        private int opposite(int[] ends, int[] otherEnds, int i) {
            int set = 0;
            for (int k = 0; k < crossings; k++) {
                if (ends[k] == i) {
                    set |= 1 << otherEnds[k];
                }
            }
            return set;
        }

        int tracksCrossed(int i) {
            return opposite(overs, beneaths, i) | opposite(beneaths, overs, i);
        }

        int haresUnder(int i) {
            int under = opposite(overs, beneaths, i);
            int c = 0;
            for (int j = 0; j < tracks; j++) {
                if (has(under, j) && isOfKind(j, HARE)) {
                    c++;
                }
            }
            return c;
        }
    }

    /** Reads a pass from a text into a draft. */
    private static final class Reader {
        final Pass draft = new Pass();

        /** The place of the fault (NONE: there is none, and the draft is the pass). */
        int read(int[] signs, int length) {
            draft.clear();
            int step;
            for (int p = 0; p < length; p += step) {
                step = 1;
                if (signs[p] != BLANK) {
                    int faultPlace = readItem(signs, length, p);
                    if (faultPlace != NONE) {
                        return faultPlace;
                    }
                    step = ITEM_BYTES;
                }
            }
            return NONE;
        }

        private int readItem(int[] signs, int length, int p) {
            int kind = kindOf(signAt(signs, length, p));
            if (kind != NONE && draft.crossings == 0 && draft.tracks < TRACKS) {
                return readTrack(kind, signs, length, p);
            }
            int over = figureOf(signAt(signs, length, p));
            if (draft.isTrack(over) && draft.crossings < CROSSINGS) {
                return readCrossing(over, signs, length, p);
            }
            return p;
        }

        private int readTrack(int kind, int[] signs, int length, int p) {
            int size = figureOf(signAt(signs, length, p + 1));
            if (size == NONE) {
                return p + 1;
            }
            int sign = signAt(signs, length, p + 2);
            int filled = sign == MINUS ? UNSEEN : figureOf(sign);
            if (filled == NONE) {
                return p + 2;
            }
            draft.addTrack(kind, size, filled);
            return NONE;
        }

        private int readCrossing(int over, int[] signs, int length, int p) {
            if (signAt(signs, length, p + 1) != OVER_SIGN) {
                return p + 1;
            }
            int beneath = figureOf(signAt(signs, length, p + 2));
            if (!draft.areTwo(over, beneath)) {
                return p + 2;
            }
            draft.addCrossing(over, beneath);
            return NONE;
        }

        private static int signAt(int[] signs, int length, int p) {
            return p >= 0 && p < length ? signs[p] : NO_SIGN;
        }

        private static int figureOf(int sign) {
            return sign >= NIL && sign <= NIL + 9 ? sign - NIL : NONE;
        }

        private static int kindOf(int sign) {
            switch (sign) {
                case 'f':
                    return FOOT;
                case 'h':
                    return HEAVY;
                case 'e':
                    return HARE;
                case 'w':
                    return TWICE;
                case 'c':
                    return CART;
                case 'v':
                    return LEVERET;
                default:
                    return NONE;
            }
        }
    }

    /** Who went ahead of whom, and the orders that this leaves. */
    private static final class Graph {
        int tracks = 0;
        /** The set of all tracks. */
        int all = 0;
        /** Of each track, who is told to have gone ahead of it. */
        final int[] before = new int[TRACKS];
        /** Of each track, who surely went behind it (once closed). */
        final int[] after = new int[TRACKS];
        /** Of each set, in how many ways the others can go on when it has gone. */
        final int[] onward = new int[SETS];
        /** Of each set, in how many ways it can have come first. */
        final int[] come = new int[SETS];
        final int[] orderTracks = new int[TRACKS];
        final int[] ringTracks = new int[TRACKS];
        /** Of each number of steps, who can come by just so many to a ring's first track. */
        final int[] back = new int[TRACKS];

        void clear(int n) {
            tracks = n;
            all = (1 << n) - 1;
            Arrays.fill(before, 0);
        }

        void takeAll(Pass p) {
            clear(p.tracks);
            addCrossings(p);
            addWind(p);
        }

        void addCrossings(Pass p) {
            for (int k = 0; k < p.crossings; k++) {
                if (p.tells(k)) {
                    before[p.overs[k]] |= 1 << p.beneaths[k];
                }
            }
        }

        void addWind(Pass p) {
            for (int i = 0; i < p.tracks; i++) {
                for (int j = 0; j < p.tracks; j++) {
                    if (p.windTells(i, j)) {
                        before[j] |= 1 << i;
                    }
                }
            }
        }

        void close() {
            Arrays.fill(after, 0);
            for (int j = 0; j < tracks; j++) {
                for (int i = 0; i < tracks; i++) {
                    if (has(before[j], i)) {
                        after[i] |= 1 << j;
                    }
                }
            }
            for (int middle = 0; middle < tracks; middle++) {
                for (int i = 0; i < tracks; i++) {
                    if (has(after[i], middle)) {
                        after[i] |= after[middle];
                    }
                }
            }
        }

        /** In a closed graph one goes ahead of another one, with all that follows. */
        void addSure(int who, int whom) {
            int behind = after[whom] | 1 << whom;
            for (int i = 0; i < tracks; i++) {
                if (i == who || has(after[i], who)) {
                    after[i] |= behind;
                }
            }
        }

        int surelyAheadOf(int j) {
            int set = 0;
            for (int i = 0; i < tracks; i++) {
                if (has(after[i], j)) {
                    set |= 1 << i;
                }
            }
            return set;
        }

        /** Those of a set of whom none in it went ahead. */
        private int foremostOf(int set) {
            int foremost = 0;
            for (int i = 0; i < tracks; i++) {
                if (has(set, i) && (before[i] & set) == 0) {
                    foremost |= 1 << i;
                }
            }
            return foremost;
        }

        /** How often the foremost ones can be taken off a set until it is empty (-1: a ring stays). */
        int layersOf(int set) {
            int left = set;
            int layers = 0;
            while (left != 0 && layers <= TRACKS) {
                left &= ~foremostOf(left);
                layers++;
            }
            return left == 0 ? layers : -1;
        }

        /** Whether one can go next when a set has gone. */
        boolean canFollow(int set, int i) {
            return !has(set, i) && (before[i] & ~set) == 0;
        }

        void countOnward() {
            onward[all] = 1;
            for (int set = all - 1; set >= 0; set--) {
                int ways = 0;
                for (int i = 0; i < tracks; i++) {
                    if (canFollow(set, i)) {
                        ways += onward[set | 1 << i];
                    }
                }
                onward[set] = ways;
            }
        }

        void countCome() {
            Arrays.fill(come, 0);
            come[0] = 1;
            for (int set = 0; set < all; set++) {
                for (int i = 0; i < tracks; i++) {
                    if (come[set] != 0 && canFollow(set, i)) {
                        come[set | 1 << i] += come[set];
                    }
                }
            }
        }

        /** In how many orders one is ahead of another one (once both countings are done). */
        int ordersWith(int i, int j) {
            int ways = 0;
            for (int set = 0; set < all; set++) {
                if (!has(set, j) && canFollow(set, i)) {
                    ways += come[set] * onward[set | 1 << i];
                }
            }
            return ways;
        }

        /** Order number i, if there are so many (once the onward counting is done). */
        void findOrder(int number) {
            int rest = number;
            int set = 0;
            for (int p = 0; p < tracks; p++) {
                int next = -1;
                for (int i = 0; i < tracks && next < 0; i++) {
                    if (canFollow(set, i)) {
                        if (rest < onward[set | 1 << i]) {
                            next = i;
                        } else {
                            rest -= onward[set | 1 << i];
                        }
                    }
                }
                if (next < 0) {
                    return;
                }
                orderTracks[p] = next;
                set |= 1 << next;
            }
        }

        /** The shortest ring, the first of alike ones: its size (0: there is none). */
        int findRing() {
            for (int size = 2; size <= tracks; size++) {
                for (int least = 0; least < tracks; least++) {
                    stepBack(least, size);
                    if (followRing(least, size)) {
                        return size;
                    }
                }
            }
            return 0;
        }

        private void stepBack(int least, int size) {
            int greater = all & ~((2 << least) - 1);
            back[0] = 1 << least;
            for (int step = 1; step < size; step++) {
                int set = 0;
                for (int i = 0; i < tracks; i++) {
                    if (has(back[step - 1], i)) {
                        set |= before[i];
                    }
                }
                back[step] = set & greater;
            }
        }

        /** Goes round by the least next track; as no ring is shorter, none comes twice. */
        private boolean followRing(int least, int size) {
            ringTracks[0] = least;
            for (int p = 1; p < size; p++) {
                int next = -1;
                for (int i = 0; i < tracks && next < 0; i++) {
                    if (has(back[size - p], i) && has(before[i], ringTracks[p - 1])) {
                        next = i;
                    }
                }
                if (next < 0) {
                    return false;
                }
                ringTracks[p] = next;
            }
            return true;
        }
    }

    /** Pairs (who is said to have gone ahead of whom), of which the lightest are to be dropped. */
    private static final class Dropping {
        int pairs = 0;
        final int[] who = new int[CROSSINGS];
        final int[] whom = new int[CROSSINGS];
        final int[] weights = new int[CROSSINGS];
        /** Of each set, the least weight that is dropped when it comes first. */
        final int[] least = new int[SETS];

        void clear() {
            pairs = 0;
        }

        void addPair(int i, int j, int weight) {
            if (pairs < CROSSINGS) {
                who[pairs] = i;
                whom[pairs] = j;
                weights[pairs] = weight;
                pairs++;
            }
        }

        /**
         * The least weight of pairs that are dropped so that an order is left which keeps to the
         * graph. The pairs that an order goes against are just those that have to be dropped for it,
         * so the least over all orders is the least over all sets of pairs.
         */
        int leastWeight(Graph g) {
            least[0] = 0;
            for (int set = 1; set <= g.all; set++) {
                least[set] = TOO_HEAVY;
                for (int i = 0; i < g.tracks; i++) {
                    int others = set & ~(1 << i);
                    if (has(set, i) && g.canFollow(others, i)) {
                        least[set] = Math.min(least[set], least[others] + weightAgainst(others, i));
                    }
                }
            }
            return least[g.all];
        }

        /** What has to be dropped when one comes behind a set. */
        private int weightAgainst(int set, int i) {
            int weight = 0;
            for (int k = 0; k < pairs; k++) {
                if (who[k] == i && has(set, whom[k])) {
                    weight += weights[k];
                }
            }
            return weight;
        }
    }

    /** Whose tracks can be one's. */
    private static final class People {
        int all = 0;
        /** Of each set, whether all its tracks can be one's (1, 0). */
        final int[] ones = new int[SETS];
        /** Of each set, the fewest people whose tracks they can be. */
        final int[] fewestOf = new int[SETS];
        /** Of each track, which others can be the same one's. */
        final int[] alike = new int[TRACKS];

        void take(Pass p) {
            all = (1 << p.tracks) - 1;
            for (int i = 0; i < p.tracks; i++) {
                alike[i] = 0;
                int crossed = p.tracksCrossed(i);
                for (int j = 0; j < p.tracks; j++) {
                    if (!has(crossed, j) && Math.abs(p.sizes[i] - p.sizes[j]) <= 1) {
                        alike[i] |= 1 << j;
                    }
                }
            }
            ones[0] = 1;
            for (int set = 1; set <= all; set++) {
                int top = topOf(set);
                int others = set & ~(1 << top);
                ones[set] = (others & ~alike[top]) == 0 ? ones[others] : 0;
            }
        }

        private static int topOf(int set) {
            int top = 0;
            for (int i = 0; i < TRACKS; i++) {
                if (has(set, i)) {
                    top = i;
                }
            }
            return top;
        }

        /** Of how many tracks one can be whose track i is (0: there is no such track). */
        int mostWith(int i) {
            int most = 0;
            for (int set = 0; set <= all; set++) {
                if (has(set, i) && ones[set] == 1) {
                    most = Math.max(most, Integer.bitCount(set));
                }
            }
            return most;
        }

        int fewest() {
            fewestOf[0] = 0;
            for (int set = 1; set <= all; set++) {
                int top = 1 << topOf(set);
                fewestOf[set] = TRACKS;
                for (int part = top; part <= set; part++) {
                    // Parts with the greatest track alone: someone's tracks hold it in any case.
                    if ((part & ~set) == 0 && ones[part] == 1) {
                        fewestOf[set] = Math.min(fewestOf[set], fewestOf[set & ~part] + 1);
                    }
                }
            }
            return fewestOf[all];
        }
    }
}
