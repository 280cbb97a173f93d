import java.util.Arrays;

/**
 * Votes on a tree: a village that votes by its oak. The promises are numbered in the project's
 * document; a set of nodes is an int throughout, in which bit i stands for node i.
 */
public final class VotesOnTree {
    public static final int NONE = -1, BAD = -2, STATE = -3, FULL = -4;
    public static final long NO = -4611686018427387904L;

    private static final int NOTHING_THERE = -11, OUTSIDE = -12, OF_ANOTHER_SORT = -13, BELOW_ZERO = -14;

    private static final int MOST_NODES = 12, MOST_YEARS = 99, MOST_TEXTS = 6, TAPE_SIZE = 160;
    private static final int MOST_CHANCES = 8, MOST_PLAYED_TWIGS = 6, MOST_TURNS = 4, MOST_SEEDS = 20;
    private static final int SHEETS = 4, SHEET_SIZE = 40, MISSING = -1;
    private static final int TRUNK = 0, HUNDRED = 100;

    private static final int FORK = 0, HOLLOW = 1, MISTLE = 2, SPLIT = 3, TWINS = 4, GRAFTED = 5;

    /** The parts of a text, in its order. */
    private static final int COSTS = 0, FALLS = 1, WORTH = 2, PARTS = 3;

    /** Tokens, and steps of a read text: a NUMBER is its own value, all else lies above 9999. */
    private static final int NAME_NODE = 10000, NAME_DEPTH = 10001, NAME_KIDS = 10002,
            NAME_TWIGS = 10003, NAME_LAST = 10004, NAME_YEAR = 10005, NAMES = 6;
    private static final int KEY_COSTS = 10010, KEY_FALLS = 10011, KEY_WORTH = 10012,
            KEY_OR = 10013, KEY_AND = 10014, KEY_NOT = 10015;
    private static final int SIGN_OPEN = 10020, SIGN_CLOSE = 10021, SIGN_END = 10022, SIGN_PLUS = 10023,
            SIGN_MINUS = 10024, SIGN_TIMES = 10025, SIGN_LESS = 10026, SIGN_SAME = 10027;
    private static final int NEGATE = 10030, TEXT_ENDS = 10031, WRONG = 10032;

    private static final int MOST_DIGITS = 4, MOST_OPEN = 5;

    private static final String FIRST_TEXT = "costs twigs * 3 + 1 ; falls depth * 5 ; worth 1 ;";

    private final Oak oak = new Oak();
    private final Reader reader = new Reader();
    private final Texts texts = new Texts();
    private final Sheets sheets = new Sheets();
    private final Image kept = new Image();
    /** What a part of THE RULE says of each node, for the call that is under way. */
    private final int[] prices = new int[MOST_NODES];
    private final int[] facts = new int[NAMES];
    /** THE LAW of each way in which minds could be, one bit a way. */
    private final int[] laws = new int[(1 << MOST_NODES - 1) / 32];
    /** What a sheet tells of a tree after cuts: sets of nodes that go no, go yes, don't stand. */
    private final int[] clues = new int[3];

    public VotesOnTree() {
        for (int i = 0; i < FIRST_TEXT.length(); i++) {
            reader.put(FIRST_TEXT.charAt(i));
        }
        if (reader.isText()) {
            texts.add(reader);
        }
        reader.empty();
    }

    // ---- the tree

    public int grow(int parent, int kind, int what) {
        return oak.sprout(parent, kind, what);
    }

    public int set(int what, int of, int v) {
        if (what == 4) {
            return isIn(v, 0, MOST_YEARS) ? putYear(v) : BAD;
        }
        if (!oak.has(of) || !isIn(what, 0, 3) || !isIn(v, 0, mostOf(what))) {
            return BAD;
        }
        int was;
        if (what == 0) {
            was = oak.number[of];
            oak.number[of] = v;
        } else if (what == 1) {
            was = bit(oak.minds, of);
            oak.minds = withBit(oak.minds, of, v);
        } else if (what == 2) {
            was = oak.odds[of];
            oak.odds[of] = v;
        } else {
            was = bit(oak.lasts, of);
            oak.lasts = withBit(oak.lasts, of, v);
        }
        return was;
    }

    private int putYear(int v) {
        int was = oak.year;
        oak.year = v;
        return was;
    }

    private static int mostOf(int what) {
        if (what == 0) {
            return 9;
        }
        return what == 2 ? HUNDRED : 1;
    }

    public int told(int node, int what) {
        if (!oak.has(node)) {
            return BAD;
        }
        int stand = oak.standing(0);
        int stands = bit(stand, node);
        switch (what) {
            case 0: return oak.kind[node];
            case 1: return oak.number[node];
            case 2: return bit(oak.minds, node);
            case 3: return oak.odds[node];
            case 4: return bit(oak.lasts, node);
            case 5: return node == TRUNK ? NONE : oak.parent[node];
            case 6: return stands;
            case 7: return bit(oak.twigsOf(stand), node);
            case 8: return stands == 0 ? NONE : bit(oak.vote(stand, oak.minds), node);
            case 9: return stands == 0 ? 0 : oak.weight(node, Integer.bitCount(oak.kidSet(node, stand)));
            default: return BAD;
        }
    }

    public int asks(int node, int what) {
        if (!oak.has(node) || !isIn(what, 0, PARTS - 1)) {
            return BAD;
        }
        int stand = oak.standing(0);
        if (bit(stand, node) == 0) {
            return STATE;
        }
        return priceOf(node, what, stand);
    }

    // ---- texts

    public int feed(int letter) {
        if (!isIn(letter, 0, 255)) {
            return BAD;
        }
        return reader.put(letter) ? reader.size : FULL;
    }

    public int text() {
        if (texts.size >= MOST_TEXTS) {
            return FULL;
        }
        boolean good = reader.isText();
        int answer = good ? texts.add(reader) : -100 - reader.place;
        reader.empty();
        return answer;
    }

    public int force(int text) {
        if (!isIn(text, 0, texts.size - 1)) {
            return BAD;
        }
        int was = texts.rule;
        texts.rule = text;
        return was;
    }

    // ---- votes, cuts

    public int law() {
        return lawNow();
    }

    public int pass() {
        int stand = oak.standing(0);
        int yes = oak.vote(stand, oak.minds);
        oak.lasts = oak.lasts & ~stand | yes;
        oak.year = Math.min(oak.year + 1, MOST_YEARS);
        return bit(yes, TRUNK);
    }

    public int cut(int node) {
        if (!oak.has(node) || node == TRUNK) {
            return BAD;
        }
        int before = oak.standing(0);
        if (bit(before, node) == 0) {
            return STATE;
        }
        oak.gone = withBit(oak.gone, node, 1);
        return Integer.bitCount(before) - Integer.bitCount(oak.standing(0));
    }

    public int graft(int node) {
        if (!oak.has(node) || node == TRUNK) {
            return BAD;
        }
        int before = oak.standing(0);
        if (bit(oak.gone, node) == 0 || bit(before, oak.parent[node]) == 0) {
            return STATE;
        }
        oak.gone = withBit(oak.gone, node, 0);
        return Integer.bitCount(oak.standing(0)) - Integer.bitCount(before);
    }

    public int minds(int v, int sort, int what) {
        return isIn(v, 0, 1) && isIn(sort, 0, 1) && isIn(what, 0, 2) ? leastSet(false, v, sort, what) : BAD;
    }

    public int cuts(int v, int sort, int what) {
        return isIn(v, 0, 1) && isIn(sort, 0, 1) && isIn(what, 0, 2) ? leastSet(true, v, sort, what) : BAD;
    }

    public int lopsided(int what) {
        if (!isIn(what, 0, 1)) {
            return BAD;
        }
        int stand = oak.standing(0);
        int twigs = oak.twigsOf(stand);
        int ways = waysOf(twigs);
        int fewest = NONE;
        int most = NONE;
        int set = 0;
        for (int k = 0; k < ways; k++) {
            int ones = Integer.bitCount(set);
            if (bit(oak.vote(stand, set), TRUNK) == 0) {
                most = Math.max(most, ones);
            } else if (fewest == NONE || ones < fewest) {
                fewest = ones;
            }
            set = nextSet(set, twigs);
        }
        return what == 0 ? fewest : most;
    }

    public int counts(int node) {
        int twigs = oak.twigsOf(oak.standing(0));
        if (node == NONE) {
            keepLaws(twigs);
            return isFair(twigs);
        }
        if (!oak.has(node) || bit(twigs, node) == 0) {
            return BAD;
        }
        keepLaws(twigs);
        return swings(twigs, Integer.bitCount(twigs & (1 << node) - 1));
    }

    // ---- odds, turns

    public long sure(int sort, int part) {
        if (!isIn(sort, 0, 1) || !isIn(part, 0, 1)) {
            return NO;
        }
        int stand = oak.standing(0);
        int drawn = sort == 0 ? oak.twigsOf(stand) : oak.kidSet(TRUNK, stand);
        if (Integer.bitCount(drawn) > MOST_CHANCES) {
            return NO;
        }
        if (sort == 0) {
            return lowest(mindOdds(stand, drawn), hundreds(drawn), part);
        }
        keepPrices(drawn, FALLS, stand);
        return lowest(stormOdds(drawn, 1), hundreds(drawn), part);
    }

    public int prop() {
        int stand = oak.standing(0);
        int kids = oak.kidSet(TRUNK, stand);
        if (Integer.bitCount(kids) > MOST_CHANCES) {
            return STATE;
        }
        keepPrices(kids, FALLS, stand);
        int want = lawNow();
        int best = NONE;
        long likeliest = 0;
        for (int i = 1; i < MOST_NODES; i++) {
            if (bit(kids, i) == 1) {
                int falls = prices[i];
                prices[i] = 0;
                long odds = stormOdds(kids, want);
                prices[i] = falls;
                if (best == NONE || odds > likeliest) {
                    best = i;
                    likeliest = odds;
                }
            }
        }
        return best;
    }

    public int turns(int n, int what) {
        if (!isIn(n, 0, MOST_TURNS) || !isIn(what, 0, 1)) {
            return BAD;
        }
        int twigs = oak.twigsOf(oak.standing(0));
        if (Integer.bitCount(twigs) > MOST_PLAYED_TWIGS) {
            return STATE;
        }
        int end = playedOut(oak, 0, n, 1);
        if (what == 0) {
            return end;
        }
        if (n > 0) {
            for (int i = 1; i < MOST_NODES; i++) {
                if (bit(twigs, i) == 1 && playedOut(oak, 1 << i, n - 1, 0) == end) {
                    return i;
                }
            }
        }
        return NONE;
    }

    public int whoCut(int sheet, int what) {
        if (!isIn(sheet, 0, SHEETS - 1) || !isIn(what, 0, 1)) {
            return BAD;
        }
        if (sheets.sort[sheet] == MISSING) {
            return NOTHING_THERE;
        }
        if (!readsClues(sheet)) {
            return BAD;
        }
        int all = withBit(oak.standing(0), TRUNK, 0);
        int ways = waysOf(all);
        int fitting = 0;
        int least = NONE;
        int set = 0;
        for (int k = 0; k < ways; k++) {
            if (!oak.isNested(set) && fitsClues(set)) {
                fitting++;
                if (least == NONE) {
                    least = set;
                }
            }
            set = nextSet(set, all);
        }
        return what == 0 ? fitting : least;
    }

    public int drawn(int seed) {
        int stand = oak.standing(0);
        return lawByLot(seed, stand, oak.twigsOf(stand));
    }

    public long chance(int seed, int n, int part) {
        if (!isIn(n, 1, MOST_SEEDS) || !isIn(part, 0, 1)) {
            return NO;
        }
        int stand = oak.standing(0);
        int twigs = oak.twigsOf(stand);
        int yes = 0;
        for (int k = 0; k < n; k++) {
            yes += lawByLot(seed + k, stand, twigs);
        }
        return lowest(yes, n, part);
    }

    public int image() {
        kept.keep(oak, texts.rule);
        return oak.size;
    }

    public int back() {
        if (!kept.there) {
            return STATE;
        }
        kept.layBack(oak);
        texts.rule = kept.rule;
        return oak.size;
    }

    public int count(int what) {
        switch (what) {
            case 0: return oak.size;
            case 1: return Integer.bitCount(oak.standing(0));
            case 2: return Integer.bitCount(oak.twigsOf(oak.standing(0)));
            case 3: return texts.size;
            case 4: return reader.size;
            case 5: return texts.rule;
            case 6: return oak.year;
            default: return BAD;
        }
    }

    // ---- the host

    public int sheet(int sheet, int sort, int n) {
        if (!isIn(sheet, 0, SHEETS - 1) || !isIn(sort, MISSING, 2)) {
            return BAD;
        }
        if (sort == MISSING) {
            sheets.lay(sheet, MISSING, 0);
            return 1;
        }
        if (n > SHEET_SIZE) {
            return BAD;
        }
        if (n < 0) {
            return BELOW_ZERO;
        }
        sheets.lay(sheet, sort, n);
        return 1;
    }

    public int cell(int sheet, int i, int v) {
        if (!isIn(sheet, 0, SHEETS - 1)) {
            return BAD;
        }
        if (sheets.sort[sheet] == MISSING) {
            return NOTHING_THERE;
        }
        if (!sheets.holds(sheet, i, 1)) {
            return OUTSIDE;
        }
        sheets.write(sheet, i, v);
        return 1;
    }

    public int copy(int sheet, int i, int other, int j, int n) {
        if (!isIn(sheet, 0, SHEETS - 1) || !isIn(other, 0, SHEETS - 1)) {
            return BAD;
        }
        if (sheets.sort[sheet] == MISSING || sheets.sort[other] == MISSING) {
            return NOTHING_THERE;
        }
        if (sheets.sort[sheet] != sheets.sort[other]) {
            return OF_ANOTHER_SORT;
        }
        if (!sheets.holds(sheet, i, n) || !sheets.holds(other, j, n)) {
            return OUTSIDE;
        }
        sheets.move(sheet, i, other, j, n);
        return n;
    }

    public int nodes(int sheet, int sort, int from, int n) {
        if (!isIn(sheet, 0, SHEETS - 1) || !isIn(sort, 0, 2) || !isIn(n, 0, MOST_NODES)) {
            return BAD;
        }
        // A missing sheet may be taken for one of any sort, so it is refused second.
        if (sheets.sort[sheet] != MISSING && sheets.sort[sheet] != sort) {
            return OF_ANOTHER_SORT;
        }
        if (sheets.sort[sheet] == MISSING) {
            return NOTHING_THERE;
        }
        int came = 0;
        for (int k = 0; k < n; k++) {
            int at = from + 3 * k;
            if (!sheets.holds(sheet, at, 3)) {
                return OUTSIDE;
            }
            int node = oak.sprout(sheets.read(sheet, at), sheets.read(sheet, at + 1), sheets.read(sheet, at + 2));
            if (node >= 0) {
                came++;
            }
        }
        return came;
    }

    public int taken(int node, int k) {
        if (!isIn(k, FORK, GRAFTED)) {
            return BAD;
        }
        if (!oak.has(node)) {
            return NOTHING_THERE;
        }
        return isUnder(oak.kind[node], k) ? oak.number[node] : OF_ANOTHER_SORT;
    }

    // ---- what the calls share

    private static boolean isIn(int v, int least, int most) {
        return v >= least && v <= most;
    }

    private static int bit(int set, int node) {
        return set >>> node & 1;
    }

    private static int withBit(int set, int node, int v) {
        return set & ~(1 << node) | v << node;
    }

    /** How many sets there are of what is in all. */
    private static int waysOf(int all) {
        return 1 << Integer.bitCount(all);
    }

    /** The set of what is in all that comes next as bits; behind the last one none again. */
    private static int nextSet(int set, int all) {
        return set - all & all;
    }

    private static boolean isUnder(int kind, int k) {
        if (kind == k || k == FORK) {
            return true;
        }
        return k == HOLLOW ? kind == SPLIT || kind == GRAFTED : k == MISTLE && kind == TWINS;
    }

    private int lawNow() {
        return bit(oak.vote(oak.standing(0), oak.minds), TRUNK);
    }

    private int lawIfCut(int set) {
        return bit(oak.vote(oak.standing(set), oak.minds), TRUNK);
    }

    private int priceOf(int node, int part, int stand) {
        oak.tellFacts(node, stand, facts);
        int most = part == FALLS ? HUNDRED : 99;
        return Math.max(0, Math.min(most, texts.value(part, facts)));
    }

    private void keepPrices(int all, int part, int stand) {
        for (int i = 0; i < MOST_NODES; i++) {
            prices[i] = bit(all, i) == 1 ? priceOf(i, part, stand) : 0;
        }
    }

    private int priceOfSet(int set) {
        int sum = 0;
        for (int i = 0; i < MOST_NODES; i++) {
            if (bit(set, i) == 1) {
                sum += prices[i];
            }
        }
        return sum;
    }

    /** Of MINDS, or of CUTS if cutting: bits, how many, price. */
    private int leastSet(boolean cutting, int v, int sort, int what) {
        int stand = oak.standing(0);
        int all = cutting ? withBit(stand, TRUNK, 0) : oak.twigsOf(stand);
        keepPrices(all, cutting ? COSTS : WORTH, stand);
        int ways = waysOf(all);
        int best = NONE;
        int least = 0;
        int set = 0;
        for (int k = 0; k < ways; k++) {
            int price = sort == 0 ? Integer.bitCount(set) : priceOfSet(set);
            // Sets come by their bits, so a like one that comes later is never the least.
            if ((best == NONE || price < least) && brings(cutting, set, stand, v)) {
                best = set;
                least = price;
            }
            set = nextSet(set, all);
        }
        if (best == NONE || what == 0) {
            return best;
        }
        return what == 1 ? Integer.bitCount(best) : priceOfSet(best);
    }

    private boolean brings(boolean cutting, int set, int stand, int v) {
        if (cutting && oak.isNested(set)) {
            return false;
        }
        int yes = cutting ? oak.vote(oak.standing(set), oak.minds) : oak.vote(stand, oak.minds ^ set);
        return bit(yes, TRUNK) == v;
    }

    private void keepLaws(int twigs) {
        Arrays.fill(laws, 0);
        int stand = oak.standing(0);
        int ways = Math.min(waysOf(twigs), laws.length * 32);
        int set = 0;
        for (int k = 0; k < ways; k++) {
            laws[k / 32] |= bit(oak.vote(stand, set), TRUNK) << k % 32;
            set = nextSet(set, twigs);
        }
    }

    /** In how many ways of keepLaws() the mind of the twig that has j twigs ahead turns THE LAW. */
    private int swings(int twigs, int j) {
        int ways = Math.min(waysOf(twigs), laws.length * 32);
        int turned = 0;
        for (int k = 0; k < ways; k++) {
            int other = k | 1 << j;
            if (other != k && other < ways && bit(laws[k / 32], k % 32) != bit(laws[other / 32], other % 32)) {
                turned += 2;
            }
        }
        return turned;
    }

    private int isFair(int twigs) {
        int n = Integer.bitCount(twigs);
        int first = swings(twigs, 0);
        for (int j = 1; j < n; j++) {
            if (swings(twigs, j) != first) {
                return 0;
            }
        }
        return 1;
    }

    /** How likely just this set comes of all, by a row of hundredths, in hundreds(all)ths. */
    private static long oddsOf(int set, int all, int[] row) {
        long odds = 1;
        for (int i = 0; i < row.length; i++) {
            if (bit(all, i) == 1) {
                odds *= bit(set, i) == 1 ? row[i] : HUNDRED - row[i];
            }
        }
        return odds;
    }

    private static long hundreds(int all) {
        long product = 1;
        int n = Integer.bitCount(all);
        for (int i = 0; i < n; i++) {
            product *= HUNDRED;
        }
        return product;
    }

    private long mindOdds(int stand, int twigs) {
        int ways = waysOf(twigs);
        long sum = 0;
        int set = 0;
        for (int k = 0; k < ways; k++) {
            if (bit(oak.vote(stand, set), TRUNK) == 1) {
                sum += oddsOf(set, twigs, oak.odds);
            }
            set = nextSet(set, twigs);
        }
        return sum;
    }

    /** How likely THE LAW is as wanted, if each of kids falls by its price. */
    private long stormOdds(int kids, int want) {
        int ways = waysOf(kids);
        long sum = 0;
        int set = 0;
        for (int k = 0; k < ways; k++) {
            long odds = oddsOf(set, kids, prices);
            if (odds > 0 && lawIfCut(set) == want) {
                sum += odds;
            }
            set = nextSet(set, kids);
        }
        return sum;
    }

    private static long lowest(long above, long below, int part) {
        long divisor = divisorOf(above, below);
        if (divisor <= 0) {
            return NO;
        }
        return part == 0 ? above / divisor : below / divisor;
    }

    private static long divisorOf(long one, long other) {
        // Each step but the first at least halves the product, so a long is done far below the bound.
        for (int step = 0; step < 200 && other != 0; step++) {
            long rest = one % other;
            one = other;
            other = rest;
        }
        return one;
    }

    /** THE LAW behind the cuts that are left, if the one on turn wants it to be so. */
    private static int playedOut(Oak oak, int set, int left, int want) {
        int stand = oak.standing(set);
        int twigs = left > 0 ? oak.twigsOf(stand) : 0;
        if (twigs == 0) {
            return bit(oak.vote(stand, oak.minds), TRUNK);
        }
        for (int i = 1; i < MOST_NODES; i++) {
            if (bit(twigs, i) == 1 && playedOut(oak, set | 1 << i, left - 1, 1 - want) == want) {
                return want;
            }
        }
        return 1 - want;
    }

    private boolean readsClues(int sheet) {
        Arrays.fill(clues, 0);
        int size = sheets.size[sheet];
        if (size % 2 != 0) {
            return false;
        }
        for (int i = 0; i + 1 < size; i += 2) {
            int node = sheets.read(sheet, i);
            int how = sheets.read(sheet, i + 1);
            if (!oak.has(node) || !isIn(how, 0, 2)) {
                return false;
            }
            clues[how] |= 1 << node;
        }
        return true;
    }

    private boolean fitsClues(int set) {
        int stand = oak.standing(set);
        if ((stand & clues[2]) != 0 || (~stand & (clues[0] | clues[1])) != 0) {
            return false;
        }
        int yes = oak.vote(stand, oak.minds);
        return (yes & clues[0]) == 0 && (~yes & clues[1]) == 0;
    }

    private int lawByLot(int seed, int stand, int twigs) {
        int z = seed;
        int set = 0;
        for (int i = 1; i < MOST_NODES; i++) {
            if (bit(twigs, i) == 1) {
                z = z * 1103515245 + 12345;
                if ((z >>> 10) % 100 < oak.odds[i]) {
                    set |= 1 << i;
                }
            }
        }
        return bit(oak.vote(stand, set), TRUNK);
    }

    /** The nodes, and how they vote. */
    private static final class Oak {
        int size = 1;
        int year = 0;
        /** Nodes that are cut themselves; nodes whose mind is yes; nodes that went yes last year. */
        int gone = 0;
        int minds = 0;
        int lasts = 0;
        final int[] parent = new int[MOST_NODES];
        final int[] kind = new int[MOST_NODES];
        final int[] number = new int[MOST_NODES];
        final int[] odds = new int[MOST_NODES];
        /** The set of nodes from the parent to the trunk. */
        final int[] above = new int[MOST_NODES];
        /** Of the vote under way: kids of each node; what weighs yes there less what weighs no. */
        final int[] kidCount = new int[MOST_NODES];
        final int[] lead = new int[MOST_NODES];

        Oak() {
            odds[TRUNK] = 50;
        }

        boolean has(int node) {
            return node >= 0 && node < size;
        }

        int sprout(int of, int sort, int what) {
            if (!has(of) || !isIn(sort, FORK, GRAFTED) || !isIn(what, 0, 91) || what % 10 > 1) {
                return BAD;
            }
            if (bit(standing(0), of) == 0) {
                return STATE;
            }
            if (size >= MOST_NODES) {
                return FULL;
            }
            int node = size;
            parent[node] = of;
            kind[node] = sort;
            number[node] = what / 10;
            odds[node] = 50;
            above[node] = above[of] | 1 << of;
            gone = withBit(gone, node, 0);
            minds = withBit(minds, node, what % 10);
            lasts = withBit(lasts, node, 0);
            size++;
            return node;
        }

        /** The nodes that stand, were these cut too. */
        int standing(int cutToo) {
            int fallen = gone | cutToo;
            int stand = 1;
            for (int i = 1; i < size; i++) {
                if (((above[i] | 1 << i) & fallen) == 0) {
                    stand |= 1 << i;
                }
            }
            return stand;
        }

        int twigsOf(int stand) {
            int forks = 1;
            for (int i = 1; i < size; i++) {
                if (bit(stand, i) == 1) {
                    forks |= 1 << parent[i];
                }
            }
            return stand & ~forks;
        }

        int kidSet(int node, int stand) {
            int kids = 0;
            for (int i = 1; i < size; i++) {
                if (bit(stand, i) == 1 && parent[i] == node) {
                    kids |= 1 << i;
                }
            }
            return kids;
        }

        /** Whether one of the set is above another one. */
        boolean isNested(int set) {
            for (int i = 1; i < size; i++) {
                if (bit(set, i) == 1 && (above[i] & set) != 0) {
                    return true;
                }
            }
            return false;
        }

        /** The nodes that go yes, were just these standing and twigs' minds so. */
        int vote(int stand, int mindSet) {
            Arrays.fill(kidCount, 0);
            Arrays.fill(lead, 0);
            int yes = 0;
            // Parents have lesser numbers: from the last one on, all kids come ahead of their parent.
            for (int i = size - 1; i > 0; i--) {
                if (bit(stand, i) == 1) {
                    int go = kidCount[i] == 0 ? bit(mindSet, i) : goesByKids(i);
                    int weighs = weight(i, kidCount[i]);
                    int to = parent[i];
                    kidCount[to]++;
                    lead[to] += go == 1 ? weighs : -weighs;
                    yes |= go << i;
                }
            }
            return yes | goesByKids(TRUNK);
        }

        private int goesByKids(int node) {
            if (lead[node] != 0) {
                return lead[node] > 0 ? 1 : 0;
            }
            return whenEven(node);
        }

        private int whenEven(int node) {
            int last = bit(lasts, node);
            switch (kind[node]) {
                case HOLLOW: return 0;
                case SPLIT: return number[node] % 2;
                case MISTLE:
                case TWINS:
                case GRAFTED: return 1 - last;
                default: return last;
            }
        }

        int weight(int node, int kids) {
            int hollow = kids > number[node] ? 0 : 1;
            switch (kind[node]) {
                case HOLLOW: return hollow;
                case MISTLE: return 2;
                case SPLIT: return hollow + kids / 2;
                case TWINS: return 4;
                // A GRAFTED is a HOLLOW of 1 at least, and no HOLLOW weighs more than 1.
                default: return 1;
            }
        }

        /** What the names of a text are of a node, in their order. */
        void tellFacts(int node, int stand, int[] row) {
            int twigs = twigsOf(stand);
            int borne = bit(twigs, node);
            for (int i = 1; i < size; i++) {
                borne += bit(twigs, i) & bit(above[i], node);
            }
            row[NAME_NODE - NAME_NODE] = node;
            row[NAME_DEPTH - NAME_NODE] = Integer.bitCount(above[node]);
            row[NAME_KIDS - NAME_NODE] = Integer.bitCount(kidSet(node, stand));
            row[NAME_TWIGS - NAME_NODE] = borne;
            row[NAME_LAST - NAME_NODE] = bit(lasts, node);
            row[NAME_YEAR - NAME_NODE] = year;
        }
    }

    /** What back() lays back. Parents and kinds never change, so they need no keeping. */
    private static final class Image {
        boolean there = false;
        int rule = 0;
        int size = 0;
        int year = 0;
        int gone = 0;
        int minds = 0;
        int lasts = 0;
        final int[] number = new int[MOST_NODES];
        final int[] odds = new int[MOST_NODES];

        void keep(Oak oak, int ruleNow) {
            there = true;
            rule = ruleNow;
            size = oak.size;
            year = oak.year;
            gone = oak.gone;
            minds = oak.minds;
            lasts = oak.lasts;
            System.arraycopy(oak.number, 0, number, 0, MOST_NODES);
            System.arraycopy(oak.odds, 0, odds, 0, MOST_NODES);
        }

        void layBack(Oak oak) {
            oak.size = size;
            oak.year = year;
            oak.gone = gone;
            oak.minds = minds;
            oak.lasts = lasts;
            System.arraycopy(number, 0, oak.number, 0, MOST_NODES);
            System.arraycopy(odds, 0, oak.odds, 0, MOST_NODES);
        }
    }

    /** The rows of numbers, one behind the other in one row. */
    private static final class Sheets {
        final int[] sort = new int[SHEETS];
        final int[] size = new int[SHEETS];
        final int[] items = new int[SHEETS * SHEET_SIZE];

        Sheets() {
            Arrays.fill(sort, MISSING);
        }

        void lay(int sheet, int newSort, int n) {
            sort[sheet] = newSort;
            size[sheet] = n;
            for (int i = 0; i < SHEET_SIZE; i++) {
                items[sheet * SHEET_SIZE + i] = 0;
            }
        }

        /** Whether n items from item i on are there. */
        boolean holds(int sheet, int i, int n) {
            return i >= 0 && n >= 0 && i <= size[sheet] - n;
        }

        int read(int sheet, int i) {
            return items[sheet * SHEET_SIZE + i];
        }

        void write(int sheet, int i, int v) {
            int item = v;
            if (sort[sheet] == 0) {
                item = (byte) v;
            } else if (sort[sheet] == 1) {
                item = (short) v;
            }
            items[sheet * SHEET_SIZE + i] = item;
        }

        void move(int sheet, int i, int other, int j, int n) {
            System.arraycopy(items, sheet * SHEET_SIZE + i, items, other * SHEET_SIZE + j, n);
        }
    }

    /** The texts as steps, operands ahead of what works on them. */
    private static final class Texts {
        int size = 0;
        int rule = 0;
        final int[] steps = new int[MOST_TEXTS * TAPE_SIZE];
        /** Of each part of each text where its steps end; the next part begins there. */
        final int[] ends = new int[MOST_TEXTS * PARTS];
        final int[] stack = new int[TAPE_SIZE];

        int add(Reader reader) {
            if (size >= MOST_TEXTS) {
                return FULL;
            }
            System.arraycopy(reader.steps, 0, steps, size * TAPE_SIZE, TAPE_SIZE);
            for (int part = 0; part < PARTS; part++) {
                ends[size * PARTS + part] = size * TAPE_SIZE + reader.ends[part];
            }
            size++;
            return size - 1;
        }

        /** What a part of THE RULE comes to by the values of the names. */
        int value(int part, int[] names) {
            int from = part == 0 ? rule * TAPE_SIZE : ends[rule * PARTS + part - 1];
            int to = ends[rule * PARTS + part];
            int depth = 0;
            for (int at = from; at < to; at++) {
                int step = steps[at];
                if (step < NAME_NODE + NAMES) {
                    if (depth >= stack.length) {
                        return 0;
                    }
                    stack[depth] = step < NAME_NODE ? step : names[step - NAME_NODE];
                    depth++;
                } else if (step == NEGATE || step == KEY_NOT) {
                    if (depth < 1) {
                        return 0;
                    }
                    int one = stack[depth - 1];
                    stack[depth - 1] = step == NEGATE ? -one : truth(one == 0);
                } else {
                    if (depth < 2) {
                        return 0;
                    }
                    depth--;
                    stack[depth - 1] = joined(step, stack[depth - 1], stack[depth]);
                }
            }
            return depth == 1 ? stack[0] : 0;
        }

        private static int truth(boolean so) {
            return so ? 1 : 0;
        }

        private static int joined(int step, int one, int other) {
            switch (step) {
                case KEY_OR: return truth(one != 0 || other != 0);
                case KEY_AND: return truth(one != 0 && other != 0);
                case SIGN_LESS: return truth(one < other);
                case SIGN_SAME: return truth(one == other);
                case SIGN_PLUS: return one + other;
                case SIGN_MINUS: return one - other;
                default: return one * other;
            }
        }
    }

    /**
     * THE TAPE, and the reading of a text from it. Each reads..() ends with false as soon as the
     * token under way can't stand there, and goes no further: place is then the FAULT.
     */
    private static final class Reader {
        int size = 0;
        final int[] tape = new int[TAPE_SIZE];
        /** The token under way, where it begins, and where the next one may begin. */
        int token = TEXT_ENDS;
        int place = 0;
        int at = 0;
        /** How many of ( , not, - ahead of a ONE are open. */
        int open = 0;
        int made = 0;
        final int[] steps = new int[TAPE_SIZE];
        final int[] ends = new int[PARTS];

        boolean put(int letter) {
            if (size >= TAPE_SIZE) {
                return false;
            }
            tape[size] = letter;
            size++;
            return true;
        }

        void empty() {
            size = 0;
        }

        boolean isText() {
            at = 0;
            open = 0;
            made = 0;
            next();
            for (int part = 0; part < PARTS; part++) {
                // The keys of the parts follow one another as the parts do.
                if (!takes(KEY_COSTS + part) || !readsE() || !takes(SIGN_END)) {
                    return false;
                }
                ends[part] = made;
            }
            return token == TEXT_ENDS;
        }

        private boolean readsE() {
            if (!readsAnd()) {
                return false;
            }
            for (int k = 0; k < TAPE_SIZE && token == KEY_OR; k++) {
                next();
                if (!readsAnd()) {
                    return false;
                }
                make(KEY_OR);
            }
            return true;
        }

        private boolean readsAnd() {
            if (!readsNot()) {
                return false;
            }
            for (int k = 0; k < TAPE_SIZE && token == KEY_AND; k++) {
                next();
                if (!readsNot()) {
                    return false;
                }
                make(KEY_AND);
            }
            return true;
        }

        private boolean readsNot() {
            int nots = opensAll(KEY_NOT);
            return readsComparison() && closes(nots, KEY_NOT);
        }

        private boolean readsComparison() {
            if (!readsSum()) {
                return false;
            }
            if (token != SIGN_LESS && token != SIGN_SAME) {
                return true;
            }
            int sign = token;
            next();
            if (!readsSum()) {
                return false;
            }
            make(sign);
            return true;
        }

        private boolean readsSum() {
            if (!readsTerm()) {
                return false;
            }
            for (int k = 0; k < TAPE_SIZE && (token == SIGN_PLUS || token == SIGN_MINUS); k++) {
                int sign = token;
                next();
                if (!readsTerm()) {
                    return false;
                }
                make(sign);
            }
            return true;
        }

        private boolean readsTerm() {
            if (!readsOne()) {
                return false;
            }
            for (int k = 0; k < TAPE_SIZE && token == SIGN_TIMES; k++) {
                next();
                if (!readsOne()) {
                    return false;
                }
                make(SIGN_TIMES);
            }
            return true;
        }

        private boolean readsOne() {
            int minuses = opensAll(SIGN_MINUS);
            return readsPlainOne() && closes(minuses, NEGATE);
        }

        private boolean readsPlainOne() {
            if (token < NAME_NODE + NAMES) {
                make(token);
                next();
                return true;
            }
            if (token != SIGN_OPEN || open >= MOST_OPEN) {
                return false;
            }
            open++;
            next();
            if (!readsE() || !takes(SIGN_CLOSE)) {
                return false;
            }
            open--;
            return true;
        }

        /** Opens such tokens as far as they may be open: how many. One too many stays, and fits nowhere. */
        private int opensAll(int due) {
            int before = open;
            while (open < MOST_OPEN && token == due) {
                open++;
                next();
            }
            return open - before;
        }

        private boolean closes(int n, int step) {
            for (int k = 0; k < n; k++) {
                open--;
                make(step);
            }
            return true;
        }

        private boolean takes(int due) {
            if (token != due) {
                return false;
            }
            next();
            return true;
        }

        private void make(int step) {
            if (made < steps.length) {
                steps[made] = step;
                made++;
            }
        }

        private void next() {
            while (at < size && (tape[at] == 32 || tape[at] == 10)) {
                at++;
            }
            place = at;
            if (at >= size) {
                token = TEXT_ENDS;
            } else if (isLetter(tape[at])) {
                token = word();
            } else if (isDigit(tape[at])) {
                token = figure();
            } else {
                token = sign(tape[at]);
                at++;
            }
        }

        private static boolean isLetter(int letter) {
            return letter >= 'a' && letter <= 'z';
        }

        private static boolean isDigit(int letter) {
            return letter >= '0' && letter <= '9';
        }

        private int figure() {
            int value = 0;
            while (at < size && isDigit(tape[at])) {
                value = value * 10 + tape[at] - '0';
                at++;
            }
            return at - place > MOST_DIGITS ? WRONG : value;
        }

        private static int sign(int letter) {
            switch (letter) {
                case '(': return SIGN_OPEN;
                case ')': return SIGN_CLOSE;
                case ';': return SIGN_END;
                case '+': return SIGN_PLUS;
                case '-': return SIGN_MINUS;
                case '*': return SIGN_TIMES;
                case '<': return SIGN_LESS;
                case '=': return SIGN_SAME;
                default: return WRONG;
            }
        }

        private int word() {
            while (at < size && isLetter(tape[at])) {
                at++;
            }
            if (spells("node")) return NAME_NODE;
            if (spells("depth")) return NAME_DEPTH;
            if (spells("kids")) return NAME_KIDS;
            if (spells("twigs")) return NAME_TWIGS;
            if (spells("last")) return NAME_LAST;
            if (spells("year")) return NAME_YEAR;
            if (spells("costs")) return KEY_COSTS;
            if (spells("falls")) return KEY_FALLS;
            if (spells("worth")) return KEY_WORTH;
            if (spells("or")) return KEY_OR;
            if (spells("and")) return KEY_AND;
            return spells("not") ? KEY_NOT : WRONG;
        }

        private boolean spells(String name) {
            if (at - place != name.length()) {
                return false;
            }
            for (int i = 0; i < name.length(); i++) {
                if (tape[place + i] != name.charAt(i)) {
                    return false;
                }
            }
            return true;
        }
    }
}
