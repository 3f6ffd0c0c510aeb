/** A house on a coast whose guests may only go when they weigh less than they entered with. */
public final class GuestWeighsLess {
    private static final int NO_SUCH = -1;
    private static final int NO_ROOM = -2;
    private static final int NOT_SO = -3;
    private static final int NONE = -4;
    private static final int NOTHING_HELD = -11;
    private static final int OTHER_KIND = -12;
    private static final int NO_PLACE = -13;
    private static final int SIZE_BELOW_ZERO = -14;
    private static final int NO_FAILURE = -15;
    private static final long LONG_REFUSAL = 1000000000L;
    private static final int FIRST_KIND_OF_FAULT = -1000;
    private static final int SECOND_KIND_OF_FAULT = -2000;

    private static final int SHELVES = 8;
    private static final int KINDS = 8;
    private static final int FIGURES = 10;
    private static final int MOST_GUESTS = 7;
    private static final int MOST_WEIGHT = 99;
    private static final int MOST_ENTERED = 120;
    private static final int MOST_RELIEF = 9999;
    private static final int LAST_DAY = 999;
    private static final int MOST_DAYS = 60;
    private static final int MOST_LOAN = 20;
    private static final int MOST_ELEMENTS = 100;
    private static final int FIRST_SECRETS = 3;
    private static final int PAIR_LOAN = 5;
    private static final int WAIT_DAYS = 5;
    private static final int SEASON_DAYS = 9;
    private static final int FEAST_MORE = 3;
    private static final int WORTH_OF_LEAVING = 6;
    private static final int LEAST_BYTE = -128;
    private static final int LEAST_SHORT = -32768;
    private static final int LEAST_INT = -2147483648;

    private final House now = new House();
    private final House mind = new House();
    private final House kept = new House();
    private boolean imageTaken = false;
    private final Guest[] kindsHeld = new Guest[SHELVES];
    private final Row[] rowsHeld = new Row[SHELVES];
    private final int[] pairGone = new int[MOST_GUESTS * MOST_GUESTS];
    private final int[] mostGone = new int[1 << MOST_GUESTS];

    public GuestWeighsLess() {
    }

    // ---- the house as told

    public int house(int d) {
        if (!isShelf(d)) {
            return NO_SUCH;
        }
        Row row = rowOn(d);
        if (row == null) {
            return whyNoRow(d);
        }
        if (row.sort != 0) {
            return OTHER_KIND;
        }
        Text text = new Text(row);
        int flaw = text.firstFlaw();
        if (flaw >= 0) {
            return FIRST_KIND_OF_FAULT - flaw;
        }
        mind.becomes(now);
        int statements = 0;
        int place = 0;
        while (statements < MOST_ELEMENTS && place < row.size()) {
            if (!text.follow(mind, place)) {
                return SECOND_KIND_OF_FAULT - place;
            }
            place += text.lengthAt(place);
            statements++;
        }
        now.becomes(mind);
        return statements;
    }

    public int guest(int g, int what) {
        if (!now.knows(g)) {
            return NO_SUCH;
        }
        switch (what) {
            case 0: return now.kind[g].kind;
            case 1: return now.kind[g].figure;
            case 2: return now.weight[g];
            case 3: return now.entered[g];
            case 4: return now.secrets[g];
            case 5: return now.came[g];
            case 6: return now.isIn(g) ? 1 : 0;
            case 7: return now.mayGo(g) ? 1 : 0;
            case 8: return now.lacks(g);
            default: return NO_SUCH;
        }
    }

    public int comes(int d, int weight) {
        if (!isShelf(d) || !isWeight(weight)) {
            return NO_SUCH;
        }
        Guest held = kindOn(d);
        if (held == null) {
            return whyNoKind(d);
        }
        if (now.isFull()) {
            return NO_ROOM;
        }
        now.takeIn(held, weight);
        return now.guests - 1;
    }

    public int tells(int g) {
        if (!now.knows(g)) {
            return NO_SUCH;
        }
        if (!now.canTell(g)) {
            return NOT_SO;
        }
        now.tellSecret(g);
        return now.weight[g];
    }

    public int lends(int g, int other, int w) {
        if (!areTwo(g, other) || w < 1 || w > MOST_LOAN) {
            return NO_SUCH;
        }
        if (!now.canLend(g, other, w)) {
            return NOT_SO;
        }
        now.lendPounds(g, other, w);
        return now.weight[g];
    }

    public int table(int board, int dance) {
        if (!isDigit(board) || !isDigit(dance)) {
            return NO_SUCH;
        }
        int old = 10 * now.board + now.dance;
        now.board = board;
        now.dance = dance;
        return old;
    }

    public int weighs(int g, int w) {
        if (!now.knows(g) || !isWeight(w)) {
            return NO_SUCH;
        }
        if (!now.isIn(g)) {
            return NOT_SO;
        }
        int old = now.weight[g];
        now.weight[g] = w;
        return old;
    }

    public int days(int n) {
        if (n < 1 || n > MOST_DAYS) {
            return NO_SUCH;
        }
        if (now.day + n > LAST_DAY) {
            return NOT_SO;
        }
        now.passDays(n);
        return now.relief;
    }

    // ---- days on

    public int weightThen(int g, int n) {
        if (!now.knows(g) || !isDaysOn(n)) {
            return NO_SUCH;
        }
        mind.becomes(now);
        mind.passDays(n);
        return mind.weight[g];
    }

    public int then(int n, int what) {
        if (!isDaysOn(n) || what < 0 || what > 2) {
            return NO_SUCH;
        }
        mind.becomes(now);
        mind.passDays(n);
        if (what == 0) {
            return mind.inside;
        }
        return what == 1 ? mind.relief : mind.weightOfAll();
    }

    public int leaves(int g) {
        if (g == -1) {
            return firstToLeave();
        }
        if (!now.knows(g)) {
            return NO_SUCH;
        }
        mind.becomes(now);
        for (int n = 0; n <= MOST_DAYS; n++) {
            if (!mind.isIn(g)) {
                return n;
            }
            mind.passDayOf(g);
        }
        return NONE;
    }

    public int order(int i) {
        if (i < -1) {
            return NO_SUCH;
        }
        return i == -1 ? now.heaviest() : now.byWeight(i);
    }

    private int firstToLeave() {
        mind.becomes(now);
        for (int n = 1; n <= MOST_DAYS; n++) {
            mind.passDay();
            int gone = now.inside & ~mind.inside;
            if (gone != 0) {
                return lowestOf(gone);
            }
        }
        return NONE;
    }

    // ---- what to feed, to tell, to lend

    public int feed(int n, int what) {
        if (!isDaysOn(n) || what < 0 || what > 1) {
            return NO_SUCH;
        }
        int best = 0;
        int most = -1;
        for (int board = 0; board <= 9; board++) {
            mind.becomes(now);
            mind.board = board;
            mind.passDays(n);
            if (mind.relief > most) {
                best = board;
                most = mind.relief;
            }
        }
        return what == 0 ? best : most;
    }

    public int empty(int n) {
        if (!isDaysOn(n)) {
            return NO_SUCH;
        }
        for (int dance = 0; dance <= 9; dance++) {
            mind.becomes(now);
            mind.dance = dance;
            mind.passDays(n);
            if (mind.inside == 0) {
                return dance;
            }
        }
        return NONE;
    }

    public int tell(int g) {
        if (!now.knows(g)) {
            return NO_SUCH;
        }
        if (!now.isIn(g)) {
            return NOT_SO;
        }
        for (int told = 0; told <= now.secrets[g]; told++) {
            mind.becomes(now);
            for (int i = 0; i < told; i++) {
                mind.tellSecret(g);
            }
            if (goesNextDay(g)) {
                return told;
            }
        }
        return NONE;
    }

    public int loan(int g, int other) {
        if (!areTwo(g, other)) {
            return NO_SUCH;
        }
        if (!now.isIn(g) || !now.isIn(other)) {
            return NOT_SO;
        }
        mind.becomes(now);
        if (goesNextDay(g)) {
            return 0;
        }
        for (int w = 1; w <= MOST_LOAN && now.canLend(g, other, w); w++) {
            mind.becomes(now);
            mind.lendPounds(g, other, w);
            if (goesNextDay(g)) {
                return w;
            }
        }
        return NONE;
    }

    public int waits(int n) {
        if (!isDaysOn(n)) {
            return NO_SUCH;
        }
        mind.becomes(now);
        mind.passDays(n);
        int most = mind.relief;
        int best = NONE;
        for (int g = 0; g < now.guests; g++) {
            if (!now.isIn(g)) {
                continue;
            }
            mind.becomes(now);
            mind.came[g] += WAIT_DAYS;
            mind.passDays(n);
            if (mind.relief > most) {
                most = mind.relief;
                best = g;
            }
        }
        return best;
    }

    public int pairs(int g) {
        if (g != -1 && !now.knows(g)) {
            return NO_SUCH;
        }
        planPairs();
        return g == -1 ? mostGone[now.inside] : partnerOf(g);
    }

    public int ledger() {
        return now.ledgerOfAll();
    }

    public int tears(int what) {
        switch (what) {
            case 0: return now.withoutSecrets();
            case 1: return now.alikeTwos();
            case 2: return goneNextDay();
            case 3: return now.secretsOfAll();
            default: return NO_SUCH;
        }
    }

    private boolean goesNextDay(int g) {
        mind.passDayOf(g);
        return !mind.isIn(g);
    }

    private int goneNextDay() {
        mind.becomes(now);
        mind.passDay();
        return now.inside & ~mind.inside;
    }

    /** Fills, for every set of those in, how many of them can be made to go on the next day. */
    private void planPairs() {
        int gone = goneNextDay();
        for (int a = 0; a < now.guests; a++) {
            pairGone[a * MOST_GUESTS + a] = gone >> a & 1;
            for (int b = a + 1; b < now.guests; b++) {
                pairGone[a * MOST_GUESTS + b] = Math.max(goneIfLent(a, b), goneIfLent(b, a));
            }
        }
        mostGone[0] = 0;
        for (int set = 1; set <= now.inside; set++) {
            if ((set & ~now.inside) == 0) {
                mostGone[set] = mostGoneOf(set);
            }
        }
    }

    /** How many of the two go on the next day; below 0 if the loan can not be. */
    private int goneIfLent(int giver, int taker) {
        if (!now.canLend(giver, taker, PAIR_LOAN)) {
            return -1;
        }
        mind.becomes(now);
        mind.lendPounds(giver, taker, PAIR_LOAN);
        mind.passDay();
        return (mind.isIn(giver) ? 0 : 1) + (mind.isIn(taker) ? 0 : 1);
    }

    private int mostGoneOf(int set) {
        int first = lowestOf(set);
        int rest = set & ~(1 << first);
        int most = pairGone[first * MOST_GUESTS + first] + mostGone[rest];
        for (int b = first + 1; b < MOST_GUESTS; b++) {
            if (canPair(first, b, rest)) {
                most = Math.max(most, goneWithPair(first, b, rest));
            }
        }
        return most;
    }

    private boolean canPair(int a, int b, int rest) {
        return (rest >> b & 1) == 1 && pairGone[a * MOST_GUESTS + b] >= 0;
    }

    private int goneWithPair(int a, int b, int rest) {
        return pairGone[a * MOST_GUESTS + b] + mostGone[rest & ~(1 << b)];
    }

    private int partnerOf(int g) {
        int set = now.inside;
        for (int i = 0; i < MOST_GUESTS && set != 0; i++) {
            int first = lowestOf(set);
            int partner = partnerOfLowest(set);
            if (first == g) {
                return partner;
            }
            if (partner == g) {
                return first;
            }
            set &= ~(1 << first);
            if (partner >= 0) {
                set &= ~(1 << partner);
            }
        }
        return NONE;
    }

    private int partnerOfLowest(int set) {
        int first = lowestOf(set);
        int rest = set & ~(1 << first);
        for (int b = first + 1; b < MOST_GUESTS; b++) {
            if (canPair(first, b, rest) && goneWithPair(first, b, rest) == mostGone[set]) {
                return b;
            }
        }
        return NONE;
    }

    // ---- what kind one is, what he came with

    public int whatIs(int d, int g, int what) {
        if (!isShelf(d) || !now.knows(g) || what < 0 || what > 1) {
            return NO_SUCH;
        }
        Row told = rowOn(d);
        if (told == null) {
            return whyNoRow(d);
        }
        return what == 0 ? kindsBy(told, g) : figuresBy(told, g);
    }

    public int cameWith(int d, int g, int what) {
        if (!isShelf(d) || !now.knows(g) || what < 0 || what > 2) {
            return NO_SUCH;
        }
        Row told = rowOn(d);
        if (told == null) {
            return whyNoRow(d);
        }
        return enteredBy(told, g, what);
    }

    public int two(int a, int b, int n) {
        if (!areTwo(a, b) || n < 1 || n > 30) {
            return NO_SUCH;
        }
        if (!now.isIn(a) || !now.isIn(b)) {
            return NOT_SO;
        }
        int eatsA = worthOfChoice(a, 0, n);
        int fastsA = worthOfChoice(a, 1, n);
        int eatsB = worthOfChoice(b, 0, n);
        int fastsB = worthOfChoice(b, 1, n);
        // what one has does not hang on the other's choice, so each one's first best choice makes the first pair
        int choiceA = eatsA >= fastsA ? 0 : 1;
        int choiceB = eatsB >= fastsB ? 0 : 1;
        return 10 * choiceA + choiceB;
    }

    public long feasts(int g, int n, int t, int part) {
        if (!now.knows(g) || n < 0 || n > 7 || t < 2 || t > 20 || !isPart(part)) {
            return LONG_REFUSAL - NO_SUCH;
        }
        long ways = 0;
        for (int feastDays = 0; feastDays < 1 << n; feastDays++) {
            if (hasLeftBehindFeasts(g, n, feastDays)) {
                ways += power(t - 1, n - Integer.bitCount(feastDays));
            }
        }
        return leastTerms(ways, power(t, n), part);
    }

    public long mean(int part) {
        if (!isPart(part)) {
            return LONG_REFUSAL - NO_SUCH;
        }
        int left = 0;
        int lighter = 0;
        for (int g = 0; g < now.guests; g++) {
            if (!now.isIn(g)) {
                left++;
                lighter += now.entered[g] - now.weight[g];
            }
        }
        return leastTerms(lighter, Math.max(left, 1), part);
    }

    private int kindsBy(Row told, int g) {
        int bits = 0;
        for (int k = 0; k < KINDS; k++) {
            if (weighedSoAs(kindOf(k, now.kind[g].figure), told, g)) {
                bits |= 1 << k;
            }
        }
        return bits;
    }

    private int figuresBy(Row told, int g) {
        int bits = 0;
        for (int figure = 0; figure < FIGURES; figure++) {
            if (weighedSoAs(kindOf(now.kind[g].kind, figure), told, g)) {
                bits |= 1 << figure;
            }
        }
        return bits;
    }

    private boolean weighedSoAs(Guest kind, Row told, int g) {
        mind.becomes(now);
        mind.kind[g] = kind;
        for (int i = 0; i < told.size(); i++) {
            if (!told.isSkipped(i) && told.at(i) != mind.weight[g]) {
                return false;
            }
            mind.passDayOf(g);
        }
        return true;
    }

    /** The numbers that make the row so have no gaps: each told element only cuts them from above or from below. */
    private int enteredBy(Row told, int g, int what) {
        int least = 0;
        int greatest = MOST_ENTERED;
        int stillIn = now.isIn(g) ? MOST_ENTERED : -1;
        mind.becomes(now);
        mind.entered[g] = 0; // with 0 he can never go, so his weight is told on for all other numbers
        for (int i = 0; i < told.size(); i++) {
            if (!told.isSkipped(i)) {
                if (told.at(i) == 0) {
                    least = Math.max(least, stillIn + 1);
                } else {
                    greatest = Math.min(greatest, told.at(i) == 1 ? stillIn : -1);
                }
            }
            mind.passDayOf(g);
            if (mind.hasStayed(g)) {
                stillIn = Math.min(stillIn, mind.weight[g]);
            }
        }
        if (what == 0) {
            return Math.max(0, greatest - least + 1);
        }
        if (least > greatest) {
            return NONE;
        }
        return what == 1 ? least : greatest;
    }

    private int worthOfChoice(int g, int fasts, int n) {
        mind.becomes(now);
        mind.passDayEating(g, fasts == 1 ? 0 : mind.foodOf(g));
        for (int i = 1; i < n; i++) {
            mind.passDayOf(g);
        }
        return (mind.isIn(g) ? mind.weight[g] / 20 : WORTH_OF_LEAVING) - fasts;
    }

    private boolean hasLeftBehindFeasts(int g, int n, int feastDays) {
        mind.becomes(now);
        for (int i = 0; i < n; i++) {
            boolean feast = (feastDays >> i & 1) == 1;
            mind.board = feast ? Math.min(9, now.board + FEAST_MORE) : now.board;
            mind.passDayOf(g);
        }
        return !mind.isIn(g);
    }

    // ---- told books, seasons by seeds

    public int forged(int d) {
        if (!isShelf(d)) {
            return NO_SUCH;
        }
        Row told = rowOn(d);
        if (told == null) {
            return whyNoRow(d);
        }
        for (int g = 0; g < told.size(); g++) {
            if (!now.knows(g) || told.at(g) != now.entered[g]) {
                return g;
            }
        }
        return NONE;
    }

    public int judge(int d) {
        if (!isShelf(d)) {
            return NO_SUCH;
        }
        Row told = rowOn(d);
        if (told == null) {
            return whyNoRow(d);
        }
        mind.becomes(now);
        for (int i = 0; i < told.size(); i++) {
            if (!told.isSkipped(i) && told.at(i) != mind.weightOfAll()) {
                return i;
            }
            mind.passDay();
        }
        return NONE;
    }

    public int seasons(int n, int z, int what) {
        if (n < 1 || n > 20 || what < 0 || what > 1) {
            return NO_SUCH;
        }
        int seed = z;
        int reliefMore = 0;
        int stillIn = 0;
        for (int season = 0; season < n; season++) {
            mind.becomes(now);
            for (int g = 0; g < now.guests; g++) {
                if (now.isIn(g)) {
                    seed = nextSeed(seed);
                    mind.weight[g] = drawBelow(100, seed);
                }
            }
            mind.passDays(SEASON_DAYS);
            reliefMore += mind.relief - now.relief;
            stillIn += Integer.bitCount(mind.inside);
        }
        return what == 0 ? reliefMore : stillIn;
    }

    private static int nextSeed(int seed) {
        return seed * 1103515245 + 12345;
    }

    private static int drawBelow(int n, int seed) {
        int drawn = (seed & 0x7fffffff) / 65536;
        return n > 0 ? drawn % n : 0;
    }

    // ---- the image, what is told

    public int image() {
        kept.becomes(now);
        imageTaken = true;
        return now.day;
    }

    public int restore() {
        if (!imageTaken) {
            return NOT_SO;
        }
        now.becomes(kept);
        return now.day;
    }

    public int count(int what) {
        switch (what) {
            case 0: return now.guests;
            case 1: return now.day;
            case 2: return now.relief;
            case 3: return now.board;
            case 4: return now.dance;
            case 5: return now.inside;
            case 6: return now.weightOfAll();
            default: return NO_SUCH;
        }
    }

    // ---- shelves

    public int keep(int d, int what, int k, int figure) {
        if (!isShelf(d) || what < 0 || what > 1) {
            return NO_SUCH;
        }
        if (what == 1 && (k < 0 || k >= KINDS || !isDigit(figure))) {
            return NO_SUCH;
        }
        kindsHeld[d] = what == 1 ? kindOf(k, figure) : null;
        rowsHeld[d] = null;
        return 0;
    }

    public int row(int d, int sort, int n) {
        if (!isShelf(d) || sort < 0 || sort > 2 || n > MOST_ELEMENTS) {
            return NO_SUCH;
        }
        if (n < 0) {
            return SIZE_BELOW_ZERO;
        }
        kindsHeld[d] = null;
        rowsHeld[d] = new Row(sort, n);
        return 0;
    }

    public int put(int d, int i, int v) {
        Row row = rowOn(d);
        if (row == null) {
            return whyNoRow(d);
        }
        if (!row.hasPlace(i)) {
            return NO_PLACE;
        }
        row.set(i, v);
        return 0;
    }

    public long element(int d, int i) throws IllegalArgumentException, IllegalStateException {
        if (!isShelf(d)) {
            throw new IllegalArgumentException("no such shelf");
        }
        Row row = rowOn(d);
        if (row == null) {
            throw new IllegalStateException("no row");
        }
        if (!row.hasPlace(i)) {
            throw new IllegalStateException("no such place");
        }
        return row.at(i);
    }

    public int copy(int d, int i, int e, int j, int n) {
        if (!isShelf(d) || !isShelf(e)) {
            return NO_SUCH;
        }
        if (holdsNothing(d) || holdsNothing(e)) {
            return NOTHING_HELD;
        }
        Row from = rowOn(d);
        Row to = rowOn(e);
        if (from == null || to == null || from.sort != to.sort) {
            return OTHER_KIND;
        }
        if (!from.hasPart(i, n) || !to.hasPart(j, n)) {
            return NO_PLACE;
        }
        to.take(j, from, i, n);
        return n;
    }

    public int cost(int d) {
        Guest held = kindOn(d);
        return held == null ? whyNoKind(d) : held.price();
    }

    public int toss(int d) {
        Guest held = kindOn(d);
        return held == null ? whyNoKind(d) : failureOf(held);
    }

    private static int failureOf(Guest one) {
        try {
            one.fail();
        } catch (IllegalStateException bishops) {
            return 200 + one.price();
        } catch (IllegalArgumentException swollenOnes) {
            return 100 + one.figure;
        } catch (UnsupportedOperationException anyOthers) {
            return one.figure;
        }
        return NO_FAILURE;
    }

    private static boolean isShelf(int d) {
        return d >= 0 && d < SHELVES;
    }

    private boolean holdsNothing(int d) {
        return kindOn(d) == null && rowOn(d) == null;
    }

    private Guest kindOn(int d) {
        return isShelf(d) ? kindsHeld[d] : null;
    }

    private Row rowOn(int d) {
        return isShelf(d) ? rowsHeld[d] : null;
    }

    private int whyNoKind(int d) {
        if (!isShelf(d)) {
            return NO_SUCH;
        }
        return rowOn(d) == null ? NOTHING_HELD : OTHER_KIND;
    }

    private int whyNoRow(int d) {
        if (!isShelf(d)) {
            return NO_SUCH;
        }
        return kindOn(d) == null ? NOTHING_HELD : OTHER_KIND;
    }

    // ---- what numbers may be, and sums

    private boolean areTwo(int a, int b) {
        return now.knows(a) && now.knows(b) && a != b;
    }

    private static boolean isWeight(int w) {
        return w >= 0 && w <= MOST_WEIGHT;
    }

    private static boolean isDigit(int n) {
        return n >= 0 && n <= 9;
    }

    private static boolean isDaysOn(int n) {
        return n >= 0 && n <= MOST_DAYS;
    }

    private static boolean isPart(int part) {
        return part == 0 || part == 1;
    }

    /** The least guest of a set that is not empty. */
    private static int lowestOf(int set) {
        int g = 0;
        while (g < MOST_GUESTS - 1 && (set >> g & 1) == 0) {
            g++;
        }
        return g;
    }

    private static long power(int base, int n) {
        long product = 1;
        for (int i = 0; i < n; i++) {
            product *= base;
        }
        return product;
    }

    private static long leastTerms(long above, long below, int part) {
        long a = below;
        long b = above;
        // two steps of Euclid's way halve the numbers at least, so 128 are more than any long needs
        for (int i = 0; i < 128 && b != 0; i++) {
            long rest = a % b;
            a = b;
            b = rest;
        }
        if (a == 0) {
            return 0;
        }
        return part == 0 ? above / a : below / a;
    }

    private static Guest kindOf(int kind, int figure) {
        switch (kind) {
            case 1: return new Aunt(kind, figure);
            case 2: return new Child(kind, figure);
            case 3: return new Swollen(kind, figure);
            case 4: return new Bishop(kind, figure);
            case 5: return new Fugitive(kind, figure);
            case 6: return new Poor(kind, figure);
            case 7: return new Singer(kind, figure);
            default: return new Guest(0, figure);
        }
    }

    /** All that there is but the shelves: who came, how heavy each is, the table, the day, the relief. */
    private static final class House {
        final Guest[] kind = new Guest[MOST_GUESTS];
        final int[] weight = new int[MOST_GUESTS];
        final int[] entered = new int[MOST_GUESTS];
        final int[] secrets = new int[MOST_GUESTS];
        final int[] came = new int[MOST_GUESTS];
        int guests = 0;
        int inside = 0;
        int board = 2;
        int dance = 3;
        int relief = 0;
        int day = 0;

        House() {
            // somebody stands at every place, so that none of them is ever null
            Guest nobody = new Guest(0, 0);
            for (int g = 0; g < MOST_GUESTS; g++) {
                kind[g] = nobody;
            }
        }

        void becomes(House other) {
            guests = other.guests;
            for (int g = 0; g < guests; g++) {
                kind[g] = other.kind[g];
                weight[g] = other.weight[g];
                entered[g] = other.entered[g];
                secrets[g] = other.secrets[g];
                came[g] = other.came[g];
            }
            inside = other.inside;
            board = other.board;
            dance = other.dance;
            relief = other.relief;
            day = other.day;
        }

        boolean knows(int g) {
            return g >= 0 && g < guests;
        }

        boolean isFull() {
            return guests >= MOST_GUESTS;
        }

        boolean isIn(int g) {
            return (inside >> g & 1) == 1;
        }

        void takeIn(Guest one, int itsWeight) {
            kind[guests] = one;
            weight[guests] = itsWeight;
            entered[guests] = itsWeight + one.rings();
            secrets[guests] = FIRST_SECRETS;
            came[guests] = day;
            inside |= 1 << guests;
            guests++;
        }

        boolean hasStayed(int g) {
            return day - came[g] >= kind[g].stay();
        }

        boolean mayGo(int g) {
            return isIn(g) && weight[g] < entered[g] && hasStayed(g);
        }

        int lacks(int g) {
            return isIn(g) ? Math.max(0, weight[g] - entered[g] + 1) : 0;
        }

        boolean canTell(int g) {
            return isIn(g) && secrets[g] > 0;
        }

        void tellSecret(int g) {
            secrets[g]--;
            weight[g] = Math.max(0, weight[g] - kind[g].lighterBySecret());
        }

        boolean canLend(int g, int other, int w) {
            return isIn(g) && isIn(other) && weight[g] >= w && weight[other] + w <= MOST_WEIGHT;
        }

        void lendPounds(int g, int other, int w) {
            weight[g] -= w;
            weight[other] += w;
        }

        int foodOf(int g) {
            return kind[g].food(board);
        }

        void passDays(int n) {
            for (int i = 0; i < n; i++) {
                passDay();
            }
        }

        void passDay() {
            day++;
            for (int g = 0; g < guests; g++) {
                eatAndDance(g, foodOf(g));
            }
            for (int g = 0; g < guests; g++) {
                if (mayGo(g)) {
                    goAway(g);
                }
            }
        }

        /** A day as one guest has it: what he weighs does not hang on the others. */
        void passDayOf(int g) {
            passDayEating(g, foodOf(g));
        }

        void passDayEating(int g, int food) {
            day++;
            eatAndDance(g, food);
            if (mayGo(g)) {
                goAway(g);
            }
        }

        void eatAndDance(int g, int food) {
            if (isIn(g)) {
                int fed = Math.min(MOST_WEIGHT, weight[g] + food);
                weight[g] = Math.max(0, fed - kind[g].danced(dance));
            }
        }

        void goAway(int g) {
            inside &= ~(1 << g);
            relief = Math.min(MOST_RELIEF, relief + entered[g] - weight[g]);
        }

        int weightOfAll() {
            int sum = 0;
            for (int g = 0; g < guests; g++) {
                sum += isIn(g) ? weight[g] : 0;
            }
            return sum;
        }

        int ledgerOfAll() {
            int sum = 0;
            for (int g = 0; g < guests; g++) {
                sum += isIn(g) ? entered[g] - weight[g] : 0;
            }
            return sum;
        }

        int secretsOfAll() {
            int sum = 0;
            for (int g = 0; g < guests; g++) {
                sum += isIn(g) ? secrets[g] : 0;
            }
            return sum;
        }

        int withoutSecrets() {
            int bits = 0;
            for (int g = 0; g < guests; g++) {
                if (isIn(g) && secrets[g] == 0) {
                    bits |= 1 << g;
                }
            }
            return bits;
        }

        int alikeTwos() {
            int twos = 0;
            for (int a = 0; a < guests; a++) {
                for (int b = a + 1; b < guests; b++) {
                    if (isIn(a) && isIn(b) && weight[a] == weight[b]) {
                        twos++;
                    }
                }
            }
            return twos;
        }

        int heaviest() {
            int best = NONE;
            int most = -1;
            for (int g = 0; g < guests; g++) {
                if (isIn(g) && weight[g] > most) {
                    best = g;
                    most = weight[g];
                }
            }
            return best;
        }

        int byWeight(int i) {
            for (int g = 0; g < guests; g++) {
                if (isIn(g) && lighterThan(g) == i) {
                    return g;
                }
            }
            return NONE;
        }

        /** How many stand ahead of one in the order by weight, alike ones by numbers. */
        int lighterThan(int g) {
            int ahead = 0;
            for (int other = 0; other < guests; other++) {
                boolean before = weight[other] < weight[g] || weight[other] == weight[g] && other < g;
                if (isIn(other) && before) {
                    ahead++;
                }
            }
            return ahead;
        }
    }

    /** The text of a house: statements of a letter, digits and a ";". */
    private static final class Text {
        final Row bytes;

        Text(Row bytes) {
            this.bytes = bytes;
        }

        /** The place of the first byte with which no text can go on; -1 if there is none. */
        int firstFlaw() {
            if (bytes.size() == 0) {
                return 0;
            }
            int place = 0;
            for (int statement = 0; statement < MOST_ELEMENTS && place < bytes.size(); statement++) {
                int flaw = flawInStatement(place);
                if (flaw >= 0) {
                    return flaw;
                }
                place += lengthAt(place);
            }
            return -1;
        }

        int flawInStatement(int start) {
            if (digitsBehind(bytes.at(start)) == 0) {
                return start;
            }
            int semicolon = start + lengthAt(start) - 1;
            for (int place = start + 1; place <= semicolon; place++) {
                if (place >= bytes.size()) {
                    return bytes.size();
                }
                boolean fits = place == semicolon ? bytes.at(place) == ';' : isDigit(digit(place));
                if (!fits) {
                    return place;
                }
            }
            return -1;
        }

        int lengthAt(int start) {
            return 2 + digitsBehind(bytes.at(start));
        }

        /** How many digits stand behind a letter; 0 if no statement begins with it. */
        static int digitsBehind(int letter) {
            switch (letter) {
                case 'g': return 4;
                case 'l': return 4;
                case 'b': return 2;
                case 's': return 2;
                case 'd': return 2;
                case 't': return 1;
                default: return 0;
            }
        }

        int digit(int place) {
            return bytes.at(place) - '0';
        }

        int twoDigits(int place) {
            return 10 * digit(place) + digit(place + 1);
        }

        /** Does what a statement says; false, if it can not be done. */
        boolean follow(House house, int start) {
            int first = digit(start + 1);
            int second = digit(start + 2);
            switch (bytes.at(start)) {
                case 'g': return takeIn(house, first, second, twoDigits(start + 3));
                case 'b': return setTable(house, first, second);
                case 't': return tellSecret(house, first);
                case 'l': return lendPounds(house, first, second, twoDigits(start + 3));
                case 's': return setSecrets(house, first, second);
                case 'd': return passDays(house, twoDigits(start + 1));
                default: return false;
            }
        }

        static boolean takeIn(House house, int kind, int figure, int weight) {
            if (kind >= KINDS || house.isFull()) {
                return false;
            }
            house.takeIn(kindOf(kind, figure), weight);
            return true;
        }

        static boolean setTable(House house, int board, int dance) {
            house.board = board;
            house.dance = dance;
            return true;
        }

        static boolean tellSecret(House house, int g) {
            if (!house.knows(g) || !house.canTell(g)) {
                return false;
            }
            house.tellSecret(g);
            return true;
        }

        static boolean lendPounds(House house, int g, int other, int w) {
            boolean two = house.knows(g) && house.knows(other) && g != other;
            if (!two || w < 1 || w > MOST_LOAN || !house.canLend(g, other, w)) {
                return false;
            }
            house.lendPounds(g, other, w);
            return true;
        }

        static boolean setSecrets(House house, int g, int secrets) {
            if (!house.knows(g)) {
                return false;
            }
            house.secrets[g] = secrets;
            return true;
        }

        static boolean passDays(House house, int n) {
            if (n < 1 || n > MOST_DAYS || house.day + n > LAST_DAY) {
                return false;
            }
            house.passDays(n);
            return true;
        }
    }

    /** Elements of a sort: 0 bytes, 1 shorts, 2 ints. */
    private static final class Row {
        final int sort;
        final int[] elements;

        /** The size has been looked at by the caller: 0 .. 100. */
        Row(int sort, int size) {
            this.sort = sort;
            this.elements = new int[Math.max(0, size)];
        }

        int size() {
            return elements.length;
        }

        boolean hasPlace(int i) {
            return i >= 0 && i < elements.length;
        }

        boolean hasPart(int from, int n) {
            return from >= 0 && n >= 0 && n <= elements.length && from <= elements.length - n;
        }

        int at(int i) {
            return hasPlace(i) ? elements[i] : 0;
        }

        void set(int i, int v) {
            if (hasPlace(i)) {
                elements[i] = lowestBits(v);
            }
        }

        int lowestBits(int v) {
            switch (sort) {
                case 0: return (byte) v;
                case 1: return (short) v;
                default: return v;
            }
        }

        /** The least number of the sort stands for nothing told. */
        boolean isSkipped(int i) {
            switch (sort) {
                case 0: return at(i) == LEAST_BYTE;
                case 1: return at(i) == LEAST_SHORT;
                default: return at(i) == LEAST_INT;
            }
        }

        void take(int to, Row other, int from, int n) {
            if (hasPart(to, n) && other.hasPart(from, n)) {
                System.arraycopy(other.elements, from, elements, to, n);
            }
        }
    }

    private static class Guest {
        final int kind;
        final int figure;

        Guest(int kind, int figure) {
            this.kind = kind;
            this.figure = figure;
        }

        int rings() {
            return 0;
        }

        int food(int board) {
            return board;
        }

        int danced(int dance) {
            return dance;
        }

        int lighterBySecret() {
            return 1;
        }

        int stay() {
            return 0;
        }

        int price() {
            return 2;
        }

        void fail() {
            if (figure != 0) {
                throw new UnsupportedOperationException("a guest fails");
            }
        }
    }

    private static class Aunt extends Guest {
        Aunt(int kind, int figure) {
            super(kind, figure);
        }

        int rings() {
            return figure;
        }

        int food(int board) {
            return board / 2;
        }

        int danced(int dance) {
            return 1;
        }

        int lighterBySecret() {
            return figure / 2;
        }

        int price() {
            return super.price() + figure;
        }
    }

    private static class Child extends Guest {
        Child(int kind, int figure) {
            super(kind, figure);
        }

        int food(int board) {
            return board + 1;
        }

        int danced(int dance) {
            return dance + figure / 3;
        }

        int lighterBySecret() {
            return 0;
        }

        int stay() {
            return figure;
        }

        int price() {
            return 1;
        }

        void fail() {
            // children have no failure
        }
    }

    private static class Swollen extends Guest {
        Swollen(int kind, int figure) {
            super(kind, figure);
        }

        int rings() {
            return figure / 2;
        }

        int price() {
            return super.price() + 3;
        }

        void fail() {
            if (figure != 0) {
                throw new IllegalArgumentException("a swollen one fails");
            }
        }
    }

    private static final class Bishop extends Aunt {
        Bishop(int kind, int figure) {
            super(kind, figure);
        }

        int rings() {
            return 2 * super.rings();
        }

        int food(int board) {
            return super.food(board) + 2;
        }

        int lighterBySecret() {
            return super.lighterBySecret() + 1;
        }

        int stay() {
            return 9;
        }

        int price() {
            return 2 * super.price();
        }

        void fail() {
            if (figure != 0) {
                throw new IllegalStateException("a bishop fails");
            }
        }
    }

    private static final class Fugitive extends Swollen {
        Fugitive(int kind, int figure) {
            super(kind, figure);
        }

        int rings() {
            return super.rings() + 1;
        }

        int food(int board) {
            return 2 * super.food(board);
        }

        int danced(int dance) {
            return Math.max(0, super.danced(dance) - 1);
        }

        int lighterBySecret() {
            return 3;
        }

        int price() {
            return 0;
        }
    }

    private static final class Poor extends Child {
        Poor(int kind, int figure) {
            super(kind, figure);
        }

        int food(int board) {
            return Math.max(0, super.food(board) - 2);
        }

        int danced(int dance) {
            return super.danced(dance) / 2;
        }

        int lighterBySecret() {
            return 1;
        }

        int price() {
            return super.price() / 2;
        }
    }

    private static final class Singer extends Aunt {
        Singer(int kind, int figure) {
            super(kind, figure);
        }

        int danced(int dance) {
            return super.danced(dance) + dance;
        }

        int price() {
            return super.price() - 1;
        }
    }
}
