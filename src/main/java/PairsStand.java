/**
 * Most pairs of rows that stand together, none made of the others. The document's numbered promises say
 * what each call answers; the words in capitals in its terms are the words used here.
 *
 * Every array is made once, with the object: a call makes nothing, so that a long run stays in its room.
 */
public final class PairsStand {
    public static final int NONE = -1, BAD = -2, STATE = -3, FULL = -4, MUCH = -5, NOTHING = -11, PLACE = -12, KIND = -13, SIZE = -14;

    private static final int FIRST_PRIME = 7, LAST_PRIME = 97, FIRST_WIDE = 4, MOST_WIDE = 6;
    private static final int MOST_PAIRS = 10, MOST_WEIGHT = 999, MOST_ENTRY = 99;
    private static final int MOST_TABLES = 20, POINTS = 8, MOST_LINES = 3;
    private static final int SHEETS = 4, MOST_CELLS = 30, HANDS = 4;

    /** How many numbers A and B of a PAIR have together: so far apart PAIRS stand where all numbers are in one row. */
    private static final int BOTH = 2 * MOST_WIDE;

    private static final int SUM = 1, TURN = 2, TWICE = 3, LOW = 4, FLAT = 5;
    /** The KIND that each KIND is under, or NONE. */
    private static final int[] ABOVE = {-1, 0, 0, 1, 2, 0};

    private static final int SORT_MISSING = -1, SORT_INTS = 0, SORT_LONGS = 1;
    private static final int HOLDS_NOTHING = 0, HOLDS_PAIR = 1, HOLDS_RAY = 2;
    private static final long NO_NAME = 0;
    private static final long LEAST_LONG = 1L << 63;

    private final Kept now = new Kept();
    private final Kept kept = new Kept();
    private boolean imageKept = false;

    private final Rows rows = new Rows();
    private final Standing standing = new Standing();
    private final Skew skew = new Skew();
    private final Root rootMaker = new Root();
    private final Rays rayBook = new Rays();
    private final Sheet[] sheets = new Sheet[SHEETS];
    private final Hand[] hands = new Hand[HANDS];

    /** PAIRS in the order of QUEUE. */
    private final int[] order = new int[MOST_PAIRS];
    /** The number that each PAIR's part of a TABLE is taken by, by rests. */
    private final int[] times = new int[MOST_PAIRS];
    /** For each PAIR the least PAIR of its class. */
    private final int[] classes = new int[MOST_PAIRS];

    public PairsStand() {
        for (int s = 0; s < SHEETS; s++) {
            sheets[s] = new Sheet();
        }
        for (int h = 0; h < HANDS; h++) {
            hands[h] = new Hand();
        }
    }

    // ---- numbers, pairs

    public int field(int prime, int wide) {
        if (!isPrime(prime) || wide < 1 || wide > MOST_WIDE) {
            return BAD;
        }
        int was = now.prime;
        now.prime = prime;
        now.wide = wide;
        return was;
    }

    public int divided(int a, int b) {
        int by = restOf(b, now.prime);
        return by == 0 ? BAD : quotient(restOf(a, now.prime), by, now.prime);
    }

    public int pair(int kind, int weight) {
        if (!isKind(kind) || !isWeight(weight)) {
            return BAD;
        }
        if (now.pairs >= MOST_PAIRS) {
            return FULL;
        }
        return now.append(kind, weight);
    }

    public int entry(int pair, int which, int i, int v) {
        if (!now.has(pair) || !isBit(which) || i < 0 || i >= MOST_WIDE || v < -MOST_ENTRY || v > MOST_ENTRY) {
            return BAD;
        }
        int at = pair * BOTH + which * MOST_WIDE + i;
        int was = now.entries[at];
        now.entries[at] = v;
        return was;
    }

    public int set(int pair, int what, int v) {
        if (!now.has(pair) || !isBit(what) || !(what == 0 ? isKind(v) : isWeight(v))) {
            return BAD;
        }
        int[] changed = what == 0 ? now.kinds : now.weights;
        int was = changed[pair];
        changed[pair] = v;
        return was;
    }

    public int told(int pair, int what) {
        if (!now.has(pair)) {
            return BAD;
        }
        switch (what) {
            case 0:
                return now.kinds[pair];
            case 1:
                return now.weights[pair];
            case 2:
                return now.placeInQueue(pair);
            case 3:
                return now.names[pair] == NO_NAME ? NONE : now.namesBelow(now.names[pair]);
            case 4:
                rows.fill(now);
                return rows.rankOf(1 << pair, 0);
            default:
                return BAD;
        }
    }

    public int number(int pair, int row, int i) {
        if (!now.has(pair) || !isBit(row) || i < 0 || i >= now.wide) {
            return BAD;
        }
        return now.rowNumber(pair, row, i);
    }

    public int drop() {
        if (now.pairs == 0) {
            return STATE;
        }
        now.pairs--;
        return now.pairs;
    }

    // ---- names

    public int name(int pair, long name) {
        if (!now.has(pair) || !isName(name)) {
            return BAD;
        }
        int owner = now.ownerOf(name);
        if (owner != NONE && owner != pair) {
            return STATE;
        }
        now.names[pair] = name;
        return 1;
    }

    public int named(long name) {
        return isName(name) ? now.ownerOf(name) : BAD;
    }

    public int unname(int pair) {
        if (!now.has(pair)) {
            return BAD;
        }
        int had = now.names[pair] == NO_NAME ? 0 : 1;
        now.names[pair] = NO_NAME;
        return had;
    }

    public long nameAt(int k) {
        for (int p = 0; p < now.pairs; p++) {
            long name = now.names[p];
            if (name != NO_NAME && now.namesBelow(name) == k) {
                return name;
            }
        }
        return PLACE;
    }

    // ---- what stands

    public int rank(int set) {
        if (!now.hasAll(set)) {
            return BAD;
        }
        rows.fill(now);
        return rows.rankOf(set, 0);
    }

    public int stands(int set) {
        if (!now.hasAll(set)) {
            return BAD;
        }
        rows.fill(now);
        return rows.isStanding(set) ? 1 : 0;
    }

    public int most() {
        fillStanding();
        return standing.greatest();
    }

    public int best(int what) {
        if (what < 0 || what > 3) {
            return BAD;
        }
        fillStanding();
        int many = standing.greatest();
        int least = 0;
        int found = 0;
        int inEach = standing.sets - 1;
        int inAny = 0;
        for (int set = standing.sets - 1; set >= 0; set--) {
            if (standing.stand[set] && Integer.bitCount(set) == many) {
                least = set;
                found++;
                inEach &= set;
                inAny |= set;
            }
        }
        switch (what) {
            case 0:
                return least;
            case 1:
                return found;
            case 2:
                return inEach;
            default:
                return inAny;
        }
    }

    public int heavy(int what) {
        if (!isBit(what)) {
            return BAD;
        }
        fillStanding();
        int heaviest = 0;
        int greatest = 0;
        for (int set = 0; set < standing.sets; set++) {
            if (standing.stand[set] && now.weightOf(set) > greatest) {
                heaviest = set;
                greatest = now.weightOf(set);
            }
        }
        return what == 0 ? heaviest : greatest;
    }

    public int queue(int k) {
        if (!now.has(k)) {
            return PLACE;
        }
        fillOrder();
        return order[k];
    }

    public int greedy(int what) {
        if (!isBit(what)) {
            return BAD;
        }
        rows.fill(now);
        fillOrder();
        int taken = 0;
        for (int k = 0; k < now.pairs; k++) {
            int more = taken | 1 << order[k];
            if (rows.isStanding(more)) {
                taken = more;
            }
        }
        return what == 0 ? taken : now.weightOf(taken);
    }

    public int better(int set) {
        if (!now.hasAll(set)) {
            return BAD;
        }
        fillStanding();
        return standing.stand[set] ? standing.bettered(set) : STATE;
    }

    // ---- tables

    public int table(int sheet, int i, int j) {
        if (!isSheet(sheet) || i < 0 || i >= now.wide || j < 0 || j >= now.wide) {
            return BAD;
        }
        if (sheets[sheet].isMissing()) {
            return NOTHING;
        }
        rows.fill(now);
        fillTimes(sheets[sheet]);
        return skew.numberAt(rows, times, i, j);
    }

    public int half(int sheet) {
        if (!isSheet(sheet)) {
            return BAD;
        }
        if (sheets[sheet].isMissing()) {
            return NOTHING;
        }
        rows.fill(now);
        fillTimes(sheets[sheet]);
        return skew.halfRank(rows, times);
    }

    public long root(int sheet) {
        if (!isSheet(sheet)) {
            return BAD;
        }
        if (sheets[sheet].isMissing()) {
            return NOTHING;
        }
        if (now.wide % 2 != 0) {
            return STATE;
        }
        rows.fill(now);
        return rootMaker.made(rows, sheets[sheet]);
    }

    public int claim(int seed, int n) {
        if (n < 1 || n > MOST_TABLES) {
            return BAD;
        }
        rows.fill(now);
        int z = seed;
        int greatest = 0;
        for (int t = 0; t < n; t++) {
            z = drawTimes(z);
            greatest = Math.max(greatest, skew.halfRank(rows, times));
        }
        return greatest;
    }

    public int sure(int seed, int n) {
        if (n < 1 || n > MOST_TABLES) {
            return BAD;
        }
        fillStanding();
        int many = standing.greatest();
        int z = seed;
        int like = 0;
        for (int t = 0; t < n; t++) {
            z = drawTimes(z);
            if (skew.halfRank(rows, times) == many) {
                like++;
            }
        }
        return like;
    }

    // ---- covers

    public int cover(int sheet, int axes) {
        if (!isSheet(sheet) || axes < 0 || axes >= 1 << now.wide) {
            return BAD;
        }
        if (sheets[sheet].isMissing()) {
            return NOTHING;
        }
        rows.fill(now);
        fillClasses(sheets[sheet]);
        return rows.coverBy(axes, classes);
    }

    public int cheap(int how, int what) {
        if (!isBit(how) || !isBit(what)) {
            return BAD;
        }
        rows.fill(now);
        for (int p = 0; p < now.pairs; p++) {
            classes[p] = how == 0 ? 0 : p;
        }
        int leastAxes = 0;
        int least = rows.coverBy(0, classes);
        for (int axes = 1; axes < 1 << now.wide; axes++) {
            // A COVER is never less than how many its AXES are: most need no look.
            if (Integer.bitCount(axes) < least) {
                int here = rows.coverBy(axes, classes);
                if (here < least) {
                    least = here;
                    leastAxes = axes;
                }
            }
        }
        return what == 0 ? least : leastAxes;
    }

    // ---- rays

    public int rays() {
        fillRays();
        return rayBook.size;
    }

    public long ray(int k) {
        fillRays();
        return rayBook.has(k) ? rayBook.codes[k] : PLACE;
    }

    public int rayOf(int pair, int row) {
        if (!now.has(pair) || !isBit(row)) {
            return BAD;
        }
        fillRays();
        long code = rayBook.codeOf(rows, pair * BOTH + row * MOST_WIDE);
        return code == Rays.NO_RAY ? NONE : rayBook.raysBelow(code);
    }

    // ---- nets

    public int link(int a, int b, int on) {
        if (!isPoint(a) || !isPoint(b) || a == b || !isBit(on)) {
            return BAD;
        }
        int was = now.lines[a] >> b & 1;
        if (on == 1 && was == 0 && (now.linesAt(a) >= MOST_LINES || now.linesAt(b) >= MOST_LINES)) {
            return STATE;
        }
        if (on != was) {
            now.lines[a] ^= 1 << b;
            now.lines[b] ^= 1 << a;
        }
        return was;
    }

    public int breaks(int set) {
        if (set < 0 || set >= 1 << POINTS) {
            return BAD;
        }
        return isBroken(set) ? 1 : 0;
    }

    public int feedback(int what) {
        if (what < 0 || what > 2) {
            return BAD;
        }
        int fewest = POINTS + 1;
        int least = 0;
        int found = 0;
        for (int set = 0; set < 1 << POINTS; set++) {
            int points = Integer.bitCount(set);
            if (points <= fewest && isBroken(set)) {
                if (points < fewest) {
                    fewest = points;
                    least = set;
                    found = 0;
                }
                found++;
            }
        }
        return what == 0 ? fewest : what == 1 ? least : found;
    }

    // ---- hands

    public int hold(int hand, int sort, int k) {
        if (!isHand(hand)) {
            return BAD;
        }
        Hand changed = hands[hand];
        int was = changed.sort;
        switch (sort) {
            case HOLDS_NOTHING:
                changed.sort = HOLDS_NOTHING;
                return was;
            case HOLDS_PAIR:
                if (!now.has(k)) {
                    return BAD;
                }
                changed.takePair(now.kinds[k], now.weights[k]);
                return was;
            case HOLDS_RAY:
                fillRays();
                if (!rayBook.has(k)) {
                    return BAD;
                }
                changed.takeRay(rayBook.codes[k], now.prime, now.wide);
                return was;
            default:
                return BAD;
        }
    }

    public int asPair(int hand, int kind) {
        if (!isHand(hand) || !isKind(kind)) {
            return BAD;
        }
        Hand asked = hands[hand];
        if (asked.sort == HOLDS_NOTHING) {
            return NOTHING;
        }
        return asked.sort == HOLDS_PAIR && isUnder(asked.kind, kind) ? asked.weight : KIND;
    }

    public int asRay(int hand, int i) {
        if (!isHand(hand)) {
            return BAD;
        }
        Hand asked = hands[hand];
        if (asked.sort == HOLDS_NOTHING) {
            return NOTHING;
        }
        if (asked.sort != HOLDS_RAY) {
            return KIND;
        }
        return i < 0 || i >= asked.size ? PLACE : asked.ray[i];
    }

    public int compare(int hand, int other) {
        if (!isHand(hand) || !isHand(other)) {
            return BAD;
        }
        Hand one = hands[hand];
        Hand two = hands[other];
        if (one.sort == HOLDS_NOTHING || two.sort == HOLDS_NOTHING) {
            return NOTHING;
        }
        return one.sort == HOLDS_RAY && two.sort == HOLDS_RAY ? one.orderTo(two) : KIND;
    }

    // ---- sheets, an image

    public int sheet(int s, int sort, int n) {
        if (!isSheet(s) || sort < SORT_MISSING || sort > SORT_LONGS) {
            return BAD;
        }
        if (sort != SORT_MISSING && n > MOST_CELLS) {
            return BAD;
        }
        if (sort != SORT_MISSING && n < 0) {
            return SIZE;
        }
        sheets[s].become(sort, sort == SORT_MISSING ? 0 : n);
        return 1;
    }

    public int cell(int s, int i, long v) {
        if (!isSheet(s)) {
            return BAD;
        }
        Sheet changed = sheets[s];
        if (changed.isMissing()) {
            return NOTHING;
        }
        if (!changed.has(i)) {
            return PLACE;
        }
        if (changed.sort == SORT_INTS && !isInt(v)) {
            return MUCH;
        }
        changed.cells[i] = v;
        return 1;
    }

    public long read(int s, int i) {
        if (!isSheet(s)) {
            return BAD;
        }
        Sheet asked = sheets[s];
        if (asked.isMissing()) {
            return NOTHING;
        }
        return asked.has(i) ? asked.cells[i] : PLACE;
    }

    public int load(int s, int pair, int from) {
        if (!isSheet(s) || !now.has(pair)) {
            return BAD;
        }
        Sheet asked = sheets[s];
        if (asked.isMissing()) {
            return NOTHING;
        }
        if (from < 0 || from > asked.size - BOTH) {
            return PLACE;
        }
        for (int i = 0; i < BOTH; i++) {
            now.entries[pair * BOTH + i] = (int) (asked.cells[from + i] % (MOST_ENTRY + 1));
        }
        return BOTH;
    }

    public int image() {
        kept.become(now);
        imageKept = true;
        return now.pairs;
    }

    public int back() {
        if (!imageKept) {
            return STATE;
        }
        now.become(kept);
        return now.pairs;
    }

    public int count(int what) {
        switch (what) {
            case 0:
                return now.pairs;
            case 1:
                return now.prime;
            case 2:
                return now.wide;
            case 3:
                return now.namesInAll();
            case 4:
                return now.linesInAll();
            default:
                return BAD;
        }
    }

    // ---- what is made ready for a call

    private void fillStanding() {
        rows.fill(now);
        standing.fill(rows);
    }

    private void fillRays() {
        rows.fill(now);
        rayBook.fill(rows);
    }

    private void fillOrder() {
        for (int p = 0; p < now.pairs; p++) {
            order[now.placeInQueue(p)] = p;
        }
    }

    private void fillTimes(Sheet told) {
        for (int p = 0; p < now.pairs; p++) {
            times[p] = restOf(told.numberFor(p), now.prime);
        }
    }

    /** One DRAW for each PAIR; answers what z has become, for the TABLE behind this one. */
    private int drawTimes(int z) {
        int drawn = z;
        for (int p = 0; p < now.pairs; p++) {
            drawn = drawn * 1103515245 + 12345;
            times[p] = (drawn >>> 8) % now.prime;
        }
        return drawn;
    }

    private void fillClasses(Sheet told) {
        for (int p = 0; p < now.pairs; p++) {
            classes[p] = p;
            for (int o = p - 1; o >= 0 && told.has(p); o--) {
                if (told.cells[o] == told.cells[p]) {
                    classes[p] = o;
                }
            }
        }
    }

    private boolean isBroken(int without) {
        return !hasRing(now.lines, ~without & (1 << POINTS) - 1);
    }

    // ---- what an argument may be

    private static boolean isPrime(int v) {
        if (v < 2 || v > LAST_PRIME) {
            return false;
        }
        for (int d = 2; d * d <= v; d++) {
            if (v % d == 0) {
                return false;
            }
        }
        return true;
    }

    private static boolean isBit(int v) {
        return v == 0 || v == 1;
    }

    private static boolean isKind(int v) {
        return v >= 0 && v < ABOVE.length;
    }

    private static boolean isWeight(int v) {
        return v >= 0 && v <= MOST_WEIGHT;
    }

    private static boolean isSheet(int v) {
        return v >= 0 && v < SHEETS;
    }

    private static boolean isHand(int v) {
        return v >= 0 && v < HANDS;
    }

    private static boolean isPoint(int v) {
        return v >= 0 && v < POINTS;
    }

    private static boolean isInt(long v) {
        return v == (int) v;
    }

    /** The lowest byte of a NAME is 0, since it has 7 letters at most. */
    private static boolean isName(long v) {
        boolean ended = false;
        for (int shift = 56; shift >= 0; shift -= 8) {
            int sign = (int) (v >>> shift & 255);
            if (sign == 0) {
                ended = true;
            } else if (ended || sign < 'a' || sign > 'z') {
                return false;
            }
        }
        return ended && v != NO_NAME;
    }

    private static boolean isUnder(int kind, int asked) {
        int at = kind;
        for (int up = 0; up < ABOVE.length && isKind(at); up++) {
            if (at == asked) {
                return true;
            }
            at = ABOVE[at];
        }
        return false;
    }

    // ---- numbers by rests, rings

    private static int restOf(long v, int prime) {
        int rest = (int) (v % prime);
        return rest < 0 ? rest + prime : rest;
    }

    /** The rest that times by (a rest that isn't 0) is a: a prime's rests always have one. */
    private static int quotient(int a, int by, int prime) {
        int tried = 0;
        while (tried < prime - 1 && tried * by % prime != a) {
            tried++;
        }
        return tried;
    }

    /** A POINT with one LINE or none is in no ring: what stays when all such are taken away has a ring. */
    private static boolean hasRing(int[] lines, int among) {
        int left = among;
        for (int round = 0; round < POINTS; round++) {
            for (int p = 0; p < POINTS; p++) {
                if (Integer.bitCount(lines[p] & left) <= 1) {
                    left &= ~(1 << p);
                }
            }
        }
        return left != 0;
    }

    /** All that AN IMAGE keeps. */
    private static final class Kept {
        int prime = FIRST_PRIME;
        int wide = FIRST_WIDE;
        int pairs = 0;
        final int[] kinds = new int[MOST_PAIRS];
        final int[] weights = new int[MOST_PAIRS];
        final long[] names = new long[MOST_PAIRS];
        /** Six numbers A and six numbers B of PAIR 0, those of PAIR 1, .. . */
        final int[] entries = new int[MOST_PAIRS * BOTH];
        /** For each POINT the POINTS it has a LINE to, by bits. */
        final int[] lines = new int[POINTS];

        void become(Kept other) {
            prime = other.prime;
            wide = other.wide;
            pairs = other.pairs;
            System.arraycopy(other.kinds, 0, kinds, 0, MOST_PAIRS);
            System.arraycopy(other.weights, 0, weights, 0, MOST_PAIRS);
            System.arraycopy(other.names, 0, names, 0, MOST_PAIRS);
            System.arraycopy(other.entries, 0, entries, 0, MOST_PAIRS * BOTH);
            System.arraycopy(other.lines, 0, lines, 0, POINTS);
        }

        boolean has(int pair) {
            return pair >= 0 && pair < pairs;
        }

        boolean hasAll(int set) {
            return set >= 0 && set < 1 << pairs;
        }

        /** The caller has seen that there is room. What a dropped PAIR had may still stand there. */
        int append(int kind, int weight) {
            int added = pairs;
            kinds[added] = kind;
            weights[added] = weight;
            names[added] = NO_NAME;
            for (int i = 0; i < BOTH; i++) {
                entries[added * BOTH + i] = 0;
            }
            pairs++;
            return added;
        }

        int rowNumber(int pair, int row, int i) {
            int a = entries[pair * BOTH + i];
            int b = entries[pair * BOTH + MOST_WIDE + i];
            int kind = kinds[pair];
            return restOf(row == 0 ? inFirst(kind, a, b, i) : inSecond(kind, a, b), prime);
        }

        private static int inFirst(int kind, int a, int b, int i) {
            switch (kind) {
                case TURN:
                    return b;
                case LOW:
                    return i == 0 ? 0 : b;
                default:
                    return a;
            }
        }

        private static int inSecond(int kind, int a, int b) {
            switch (kind) {
                case SUM:
                    return a + b;
                case TWICE:
                    return a + b + a;
                case TURN:
                case LOW:
                case FLAT:
                    return a;
                default:
                    return b;
            }
        }

        int weightOf(int set) {
            int sum = 0;
            for (int p = 0; p < pairs; p++) {
                if ((set >> p & 1) == 1) {
                    sum += weights[p];
                }
            }
            return sum;
        }

        int placeInQueue(int pair) {
            int ahead = 0;
            for (int p = 0; p < pairs; p++) {
                if (isAhead(p, pair)) {
                    ahead++;
                }
            }
            return ahead;
        }

        private boolean isAhead(int p, int o) {
            if (weights[p] != weights[o]) {
                return weights[p] > weights[o];
            }
            if (kinds[p] != kinds[o]) {
                return kinds[p] < kinds[o];
            }
            return p < o;
        }

        int ownerOf(long name) {
            for (int p = 0; p < pairs; p++) {
                if (names[p] == name) {
                    return p;
                }
            }
            return NONE;
        }

        /** Letters stand from the highest byte on, so NAMES as longs are in order of the alphabet. */
        int namesBelow(long name) {
            int below = 0;
            for (int p = 0; p < pairs; p++) {
                if (names[p] != NO_NAME && names[p] < name) {
                    below++;
                }
            }
            return below;
        }

        int namesInAll() {
            int sum = 0;
            for (int p = 0; p < pairs; p++) {
                if (names[p] != NO_NAME) {
                    sum++;
                }
            }
            return sum;
        }

        int linesAt(int point) {
            return Integer.bitCount(lines[point]);
        }

        int linesInAll() {
            int ends = 0;
            for (int p = 0; p < POINTS; p++) {
                ends += linesAt(p);
            }
            return ends / 2;
        }
    }

    /** The ROWS of all PAIRS as they are at a call, reckoned once for it. */
    private static final class Rows {
        int prime = FIRST_PRIME;
        int wide = FIRST_WIDE;
        int pairs = 0;
        /** The first ROW of PAIR 0, its second, those of PAIR 1, .. . */
        final int[] numbers = new int[MOST_PAIRS * BOTH];
        private final Basis basis = new Basis();

        void fill(Kept told) {
            prime = told.prime;
            wide = told.wide;
            pairs = told.pairs;
            for (int p = 0; p < pairs; p++) {
                for (int i = 0; i < wide; i++) {
                    numbers[p * BOTH + i] = told.rowNumber(p, 0, i);
                    numbers[p * BOTH + MOST_WIDE + i] = told.rowNumber(p, 1, i);
                }
            }
        }

        /** RANK of the ROWS of a SET, when 0 stands at the places of AXES. */
        int rankOf(int set, int axes) {
            basis.clear(prime, wide, axes);
            for (int p = 0; p < pairs; p++) {
                if ((set >> p & 1) == 1) {
                    basis.add(numbers, p * BOTH);
                    basis.add(numbers, p * BOTH + MOST_WIDE);
                }
            }
            return basis.size;
        }

        boolean isStanding(int set) {
            int wanted = 2 * Integer.bitCount(set);
            return wanted <= wide && rankOf(set, 0) == wanted;
        }

        /**
         * AXES take just their own places out of ROWS: by how much RANK is more with the ROWS than with the
         * AXES alone is RANK of these ROWS with 0 at the AXES' places.
         */
        int coverBy(int axes, int[] classes) {
            int sum = Integer.bitCount(axes);
            for (int c = 0; c < pairs; c++) {
                int members = 0;
                for (int p = c; p < pairs; p++) {
                    if (classes[p] == c) {
                        members |= 1 << p;
                    }
                }
                sum += rankOf(members, axes) / 2;
            }
            return sum;
        }

        /** Number i of the first ROW times number j of the second, less i of the second times j of the first. */
        int difference(int pair, int i, int j) {
            int first = pair * BOTH;
            int second = first + MOST_WIDE;
            return numbers[first + i] * numbers[second + j] - numbers[second + i] * numbers[first + j];
        }
    }

    /** Rows none of which is made of the others: at most one that begins, behind nothing but 0, at each place. */
    private static final class Basis {
        int size = 0;
        private int prime = FIRST_PRIME;
        private int wide = FIRST_WIDE;
        private int leftOut = 0;
        /** The row that begins at place c has its numbers from c * MOST_WIDE on. */
        private final int[] kept = new int[MOST_WIDE * MOST_WIDE];
        private final boolean[] begins = new boolean[MOST_WIDE];
        private final int[] work = new int[MOST_WIDE];

        void clear(int byPrime, int byWide, int axes) {
            prime = byPrime;
            wide = byWide;
            leftOut = axes;
            size = 0;
            for (int c = 0; c < MOST_WIDE; c++) {
                begins[c] = false;
            }
        }

        void add(int[] numbers, int from) {
            for (int i = 0; i < wide; i++) {
                work[i] = (leftOut >> i & 1) == 1 ? 0 : numbers[from + i];
            }
            for (int c = 0; c < wide; c++) {
                if (work[c] != 0) {
                    if (!begins[c]) {
                        keepWork(c);
                        return;
                    }
                    clearPlace(c);
                }
            }
        }

        private void keepWork(int c) {
            begins[c] = true;
            size++;
            for (int i = 0; i < wide; i++) {
                kept[c * MOST_WIDE + i] = work[i];
            }
        }

        /** Times the other's first number, which isn't 0, a row says the same: so nothing need be divided. */
        private void clearPlace(int c) {
            int own = prime - work[c];
            int others = kept[c * MOST_WIDE + c];
            for (int i = c; i < wide; i++) {
                work[i] = (work[i] * others + own * kept[c * MOST_WIDE + i]) % prime;
            }
        }
    }

    /** Which SETS STAND. */
    private static final class Standing {
        int sets = 1;
        private int pairs = 0;
        final boolean[] stand = new boolean[1 << MOST_PAIRS];

        /** A SET can only STAND if it does without its least PAIR: this is looked at first, as it is cheap. */
        void fill(Rows rows) {
            pairs = rows.pairs;
            sets = 1 << pairs;
            stand[0] = true;
            for (int set = 1; set < sets; set++) {
                stand[set] = stand[set & set - 1] && rows.isStanding(set);
            }
        }

        int greatest() {
            int many = 0;
            for (int set = 0; set < sets; set++) {
                if (stand[set]) {
                    many = Math.max(many, Integer.bitCount(set));
                }
            }
            return many;
        }

        /** Each turn adds a PAIR, so there are no more turns than PAIRS. */
        int bettered(int set) {
            int got = set;
            for (int turn = 0; turn < pairs; turn++) {
                int more = withOneMore(got);
                got = more == got ? withTwoForOne(got) : more;
            }
            return got;
        }

        private int withOneMore(int set) {
            for (int p = 0; p < pairs; p++) {
                int more = set | 1 << p;
                if (more != set && stand[more]) {
                    return more;
                }
            }
            return set;
        }

        private int withTwoForOne(int set) {
            for (int x = 0; x < pairs; x++) {
                if ((set >> x & 1) == 1) {
                    int two = twoMore(set, set & ~(1 << x));
                    if (two != NONE) {
                        return two;
                    }
                }
            }
            return set;
        }

        /** The first two that aren't of a SET and that STAND with what is left of it, with that; or NONE. */
        private int twoMore(int set, int left) {
            for (int a = 0; a < pairs; a++) {
                for (int b = a + 1; b < pairs; b++) {
                    int two = 1 << a | 1 << b;
                    if ((set & two) == 0 && stand[left | two]) {
                        return left | two;
                    }
                }
            }
            return NONE;
        }
    }

    /** A TABLE by rests. */
    private static final class Skew {
        private final int[] line = new int[MOST_WIDE];
        private final Basis basis = new Basis();

        int numberAt(Rows rows, int[] times, int i, int j) {
            int sum = 0;
            for (int p = 0; p < rows.pairs; p++) {
                sum += times[p] * rows.difference(p, i, j);
            }
            return restOf(sum, rows.prime);
        }

        int halfRank(Rows rows, int[] times) {
            basis.clear(rows.prime, rows.wide, 0);
            for (int i = 0; i < rows.wide; i++) {
                for (int j = 0; j < rows.wide; j++) {
                    line[j] = numberAt(rows, times, i, j);
                }
                basis.add(line, 0);
            }
            return basis.size / 2;
        }
    }

    /** ROOT of a TABLE in whole numbers. */
    private static final class Root {
        private int wide = FIRST_WIDE;
        /** Once a number is beyond its bounds, what is reckoned with it no longer counts. */
        private boolean isMuch = false;
        private final long[] numbers = new long[MOST_WIDE * MOST_WIDE];

        long made(Rows rows, Sheet told) {
            wide = rows.wide;
            isMuch = false;
            for (int i = 0; i < wide; i++) {
                for (int j = i + 1; j < wide; j++) {
                    numbers[i * MOST_WIDE + j] = wholeNumber(rows, told, i, j);
                }
            }
            long whole = ofPlaces((1 << wide) - 1, 0);
            return isMuch ? MUCH : whole;
        }

        private long wholeNumber(Rows rows, Sheet told, int i, int j) {
            long sum = 0;
            for (int p = 0; p < rows.pairs; p++) {
                sum = plus(sum, product(told.numberFor(p), rows.difference(p, i, j)));
            }
            isMuch |= !isInt(sum);
            return sum;
        }

        /** Two places leave at each level, so none is deeper than half of the most that WIDE can be. */
        private long ofPlaces(int left, int depth) {
            if (left == 0 || isMuch || depth > MOST_WIDE / 2) {
                return 1;
            }
            int i = 0;
            while (i < wide && (left >> i & 1) == 0) {
                i++;
            }
            long sum = 0;
            boolean adds = true;
            for (int j = i + 1; j < wide; j++) {
                if ((left >> j & 1) == 1) {
                    long others = ofPlaces(left & ~(1 << i | 1 << j), depth + 1);
                    long part = product(numbers[i * MOST_WIDE + j], others);
                    sum = adds ? plus(sum, part) : minus(sum, part);
                    adds = !adds;
                }
            }
            return sum;
        }

        private long plus(long a, long b) {
            long sum = a + b;
            isMuch |= ((a ^ sum) & (b ^ sum)) < 0;
            return sum;
        }

        private long minus(long a, long b) {
            long less = a - b;
            isMuch |= ((a ^ b) & (a ^ less)) < 0;
            return less;
        }

        private long product(long a, long b) {
            long times = a * b;
            // The least long, turned, is itself: dividing by -1 would not show that it is too great.
            isMuch |= b == -1 ? a == LEAST_LONG : b != 0 && times / b != a;
            return times;
        }
    }

    /** RAYS in order, each once, each as the number that ray(k) answers: these are in the same order. */
    private static final class Rays {
        /** A RAY has a 1, so that none is told by 0. */
        static final long NO_RAY = 0;
        int size = 0;
        final long[] codes = new long[2 * MOST_PAIRS];

        void fill(Rows rows) {
            size = 0;
            for (int row = 0; row < 2 * rows.pairs; row++) {
                insert(codeOf(rows, row * MOST_WIDE));
            }
        }

        boolean has(int k) {
            return k >= 0 && k < size;
        }

        long codeOf(Rows rows, int from) {
            int by = 0;
            long code = NO_RAY;
            for (int i = 0; i < rows.wide; i++) {
                int v = rows.numbers[from + i];
                if (by == 0 && v != 0) {
                    by = quotient(1, v, rows.prime);
                }
                code = code * rows.prime + v * by % rows.prime;
            }
            return code;
        }

        int raysBelow(long code) {
            int below = 0;
            while (below < size && codes[below] < code) {
                below++;
            }
            return below;
        }

        private void insert(long code) {
            int at = raysBelow(code);
            boolean isThere = at < size && codes[at] == code;
            if (code == NO_RAY || isThere || size >= codes.length) {
                return;
            }
            for (int k = size; k > at; k--) {
                codes[k] = codes[k - 1];
            }
            codes[at] = code;
            size++;
        }
    }

    /** Nothing, a PAIR or a RAY as it was. A and B of a held PAIR are not kept, since no call asks for them. */
    private static final class Hand {
        int sort = HOLDS_NOTHING;
        int kind = 0;
        int weight = 0;
        int size = 0;
        final int[] ray = new int[MOST_WIDE];

        void takePair(int itsKind, int itsWeight) {
            sort = HOLDS_PAIR;
            kind = itsKind;
            weight = itsWeight;
        }

        void takeRay(long code, int prime, int wide) {
            sort = HOLDS_RAY;
            size = wide;
            long left = code;
            for (int i = wide - 1; i >= 0; i--) {
                ray[i] = (int) (left % prime);
                left /= prime;
            }
        }

        int orderTo(Hand other) {
            int both = Math.min(size, other.size);
            for (int i = 0; i < both; i++) {
                if (ray[i] != other.ray[i]) {
                    return ray[i] < other.ray[i] ? -1 : 1;
                }
            }
            return Integer.compare(size, other.size);
        }
    }

    /** A row of ints or of longs, or none. */
    private static final class Sheet {
        int sort = SORT_MISSING;
        int size = 0;
        final long[] cells = new long[MOST_CELLS];

        void become(int newSort, int newSize) {
            sort = newSort;
            size = newSize;
            for (int i = 0; i < size; i++) {
                cells[i] = 0;
            }
        }

        boolean isMissing() {
            return sort == SORT_MISSING;
        }

        boolean has(int i) {
            return i >= 0 && i < size;
        }

        /** A PAIR for which there is no place has 0. */
        long numberFor(int pair) {
            return has(pair) ? cells[pair] : 0;
        }
    }
}
