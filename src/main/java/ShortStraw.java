import java.util.Arrays;

/** The short straw: who draws a short one out of the fist must go. ../shared/DOC.md says what each call does. */
public final class ShortStraw {
    public static final int NONE = -1, BAD = -2, STATE = -3, FULL = -4;
    public static final long NO = Long.MIN_VALUE;

    private static final int NOBODY = -5, TOO_MANY = -9, FAULT = -10;
    private static final int NOTHING = -11, CAST = -12, PLACE = -13, SIZE = -14;

    private static final int PLAIN_DRAWER = 0, KEEN = 1, BOLD = 2, BLIND = 3, KNOWING = 4, RASH = 5, TOLD = 6;
    private static final int KINDS = 7;
    private static final int[] ABOVE = {-1, PLAIN_DRAWER, PLAIN_DRAWER, PLAIN_DRAWER, KEEN, BOLD, BLIND};

    private static final int DRAWERS_MOST = 6, DIGIT_MOST = 9, SENT_MOST = 999, NIGHT_MOST = 9999;
    private static final int ROW_LENGTH = 4, SHORTS_MOST = 3, LONGS_MORE_MOST = 9;
    private static final int PLAIN_PULL = 10, LONG_PULL = 10;
    private static final int MILLION = 1000000;
    private static final int HUTS_MOST = 6, TEXT_MOST = 100, SIGN_MOST = 127;
    private static final int BEST_DRAWERS_MOST = 5, BEST_ORDERS_MOST = 120, ENOUGH_MOST = 20;
    private static final int SEEN_MOST = 6, BOOK_MOST = 8;
    private static final int COIN_MOST = 99, CHOSEN_MOST = 16, FACES_LEAST = 2, FACES_MOST = 20;
    private static final int TAPES = 6, TAPE_MOST = 60;

    private final Winter winter = new Winter();
    private final Winter kept = new Winter();
    private boolean isKept = false;
    private final Likelihood likelihood = new Likelihood(winter);
    private final int[] otherOrder = new int[DRAWERS_MOST];
    private final int[] bestOrder = new int[DRAWERS_MOST];
    private final HutReader reader = new HutReader();
    private int huts = 0;
    private final Acts acts = new Acts();
    private final Tape[] tapes = new Tape[TAPES];

    public ShortStraw() {
        for (int i = 0; i < TAPES; i++) {
            tapes[i] = new Tape();
        }
    }

    // ---- drawers, huts, orders

    public int drawer(int kind, int v) {
        if (kind < 0 || kind >= KINDS) {
            return NONE;
        }
        if (v < 0 || v > DIGIT_MOST) {
            return BAD;
        }
        if (winter.drawers >= DRAWERS_MOST) {
            return FULL;
        }
        return winter.welcome(kind, v);
    }

    public int of(int drawer, int what) {
        if (!winter.has(drawer)) {
            return NONE;
        }
        int place = winter.placeOf(drawer);
        switch (what) {
            case 0: return winter.kinds[drawer];
            case 1: return winter.numbers[drawer];
            case 2: return winter.sents[drawer];
            case 3: return place;
            case 4: return winter.pull(drawer, place, winter.shorts, winter.longs);
            case 5: return winter.chance(drawer, place, winter.shorts, winter.longs);
            default: return NONE;
        }
    }

    public int sent(int drawer, int n) {
        if (!winter.has(drawer)) {
            return NONE;
        }
        if (n < 0 || n > SENT_MOST) {
            return BAD;
        }
        int before = winter.sents[drawer];
        winter.sents[drawer] = n;
        return before;
    }

    public int row(int drawer, int part, int n) {
        if (!winter.has(drawer) || part < 0 || part >= ROW_LENGTH) {
            return NONE;
        }
        if (n < 0 || n > DIGIT_MOST) {
            return BAD;
        }
        if (winter.kinds[drawer] != TOLD) {
            return STATE;
        }
        int before = winter.rows[drawer][part];
        winter.rows[drawer][part] = n;
        return before;
    }

    public int place(int drawer, int k) {
        if (!winter.has(drawer) || !winter.has(k)) {
            return NONE;
        }
        int before = winter.placeOf(drawer);
        winter.orderWith(drawer, k, otherOrder);
        System.arraycopy(otherOrder, 0, winter.order, 0, winter.drawers);
        winter.makeWhole();
        return before;
    }

    public int feed(int sign) {
        if (sign < 0 || sign > SIGN_MOST) {
            return BAD;
        }
        if (reader.length >= TEXT_MOST) {
            return FULL;
        }
        return reader.add(sign);
    }

    public int hut() {
        if (huts >= HUTS_MOST) {
            return FULL;
        }
        boolean isHut = reader.readsAll();
        reader.length = 0;
        if (!isHut) {
            return FAULT - reader.at;
        }
        winter.hut = reader.newHut();
        winter.makeWhole();
        huts++;
        return huts - 1;
    }

    public int told(int what) {
        switch (what) {
            case 0: return winter.night;
            case 1: return winter.shorts;
            case 2: return winter.longs;
            case 3: return winter.drawn;
            case 4: return winter.next();
            default: break;
        }
        int k = what < 10 ? -1 : what - 10;
        return winter.has(k) ? winter.order[k] : NONE;
    }

    // ---- draws

    public int draw(int d) {
        if (!isDrawNumber(d)) {
            return BAD;
        }
        if (winter.next() == NOBODY || winter.night >= NIGHT_MOST) {
            return STATE;
        }
        return winter.drawNext(d);
    }

    // ---- likely, even

    public int likely(int drawer) {
        if (!winter.has(drawer)) {
            return NONE;
        }
        likelihood.begin(0);
        return likelihood.ofOne(drawer, winter.order);
    }

    public int even() {
        if (winter.drawers == 0) {
            return NOBODY;
        }
        likelihood.begin(0);
        return likelihood.evenBy(winter.order);
    }

    public int best(int k) {
        if (k < -1 || k >= BEST_DRAWERS_MOST) {
            return NONE;
        }
        if (winter.drawers == 0) {
            return NOBODY;
        }
        if (winter.drawers > BEST_DRAWERS_MOST) {
            return TOO_MANY;
        }
        if (k >= winter.drawers) {
            return NOBODY;
        }
        firstOrder(otherOrder, winter.drawers);
        likelihood.begin(0);
        int least = MILLION + 1;
        boolean isMore = true;
        // orders come from the first as a row on, so only one that is more even may take the best one's place
        for (int i = 0; i < BEST_ORDERS_MOST && isMore; i++) {
            int even = likelihood.evenBy(otherOrder);
            if (even < least) {
                least = even;
                System.arraycopy(otherOrder, 0, bestOrder, 0, winter.drawers);
            }
            isMore = stepOrder(otherOrder, winter.drawers);
        }
        return k < 0 ? least : bestOrder[k];
    }

    public int safest(int drawer, int what) {
        if (!winter.has(drawer) || what < 0 || what > 1) {
            return NONE;
        }
        likelihood.begin(0);
        int place = 0;
        int least = MILLION + 1;
        for (int k = 0; k < winter.drawers; k++) {
            winter.orderWith(drawer, k, otherOrder);
            int likely = likelihood.ofOne(drawer, otherOrder);
            if (likely < least) {
                least = likely;
                place = k;
            }
        }
        return what == 0 ? place : least;
    }

    public int enough(int drawer, int q) {
        if (!winter.has(drawer)) {
            return NONE;
        }
        if (q < 0 || q > MILLION) {
            return BAD;
        }
        for (int more = 0; more <= ENOUGH_MOST; more++) {
            likelihood.begin(more);
            if (likelihood.ofOne(drawer, winter.order) <= q) {
                return more;
            }
        }
        return NOBODY;
    }

    public int leans() {
        int shorts = winter.wholeShorts();
        int longs = winter.wholeLongs();
        int who = NOBODY;
        int greatest = -1;
        for (int d = 0; d < winter.drawers; d++) {
            int pull = winter.pull(d, 0, shorts, longs);
            if (pull > greatest) {
                greatest = pull;
                who = d;
            }
        }
        return who;
    }

    // ---- coins, dice; part 0 above, 1 below the line

    public long coin(int p, int m, int part) {
        if (p < 1 || p > COIN_MOST || !isChosen(m) || !isPart(part)) {
            return NO;
        }
        int k = throwsFor(2, m);
        long above = k * power(2, k);
        if (p == 50) {
            return lowest(above, m, part);
        }
        return lowest(10000 * above, (long) m * p * (100 - p), part);
    }

    public long dice(int f, int m, int part) {
        if (f < FACES_LEAST || f > FACES_MOST || !isChosen(m) || !isPart(part)) {
            return NO;
        }
        int k = throwsFor(f, m);
        long all = power(f, k);
        return lowest(k * all, all - all % m, part);
    }

    // ---- winters

    public int turn() {
        int who = NOBODY;
        int fewest = SENT_MOST + 1;
        for (int k = 0; k < winter.drawers; k++) {
            int d = winter.order[k];
            if (winter.sents[d] < fewest) {
                fewest = winter.sents[d];
                who = d;
            }
        }
        return who;
    }

    public int uneven() {
        int all = 0;
        for (int d = 0; d < winter.drawers; d++) {
            all += winter.sents[d];
        }
        int sum = 0;
        for (int d = 0; d < winter.drawers; d++) {
            int off = winter.sents[d] * winter.drawers - all;
            sum += off * off;
        }
        return sum;
    }

    public int most(int what) {
        if (what < 0 || what > 1) {
            return NONE;
        }
        if (winter.drawers == 0) {
            return NOBODY;
        }
        int who = 0;
        int fewest = winter.sents[0];
        for (int d = 1; d < winter.drawers; d++) {
            fewest = Math.min(fewest, winter.sents[d]);
            if (winter.sents[d] > winter.sents[who]) {
                who = d;
            }
        }
        return what == 0 ? who : winter.sents[who] - fewest;
    }

    // ---- seen, odds, books

    public int see(int d, boolean isShort) {
        if (d == -1) {
            winter.seen = 0;
            return 0;
        }
        if (!isDrawNumber(d)) {
            return BAD;
        }
        if (winter.seen >= SEEN_MOST) {
            return FULL;
        }
        winter.seenNumbers[winter.seen] = d;
        winter.seenShorts[winter.seen] = isShort ? 1 : 0;
        winter.seen++;
        return winter.seen;
    }

    public int fits() {
        int straws = winter.wholeShorts() + winter.wholeLongs();
        int bits = 0;
        for (int shorts = 1; shorts <= SHORTS_MOST; shorts++) {
            if (winter.isSeenBy(shorts, Math.max(0, straws - shorts))) {
                bits |= 1 << shorts;
            }
        }
        return bits;
    }

    public long odds(int drawer, int part) {
        if (!winter.has(drawer) || !isPart(part)) {
            return NO;
        }
        likelihood.begin(0);
        return lowest(likelihood.ofOne(drawer, winter.order), MILLION, part);
    }

    public long mean(int part) {
        if (!isPart(part) || winter.drawers == 0) {
            return NO;
        }
        likelihood.begin(0);
        likelihood.goThrough(winter.order);
        long sum = 0;
        for (int d = 0; d < winter.drawers; d++) {
            sum += likelihood.likely[d];
        }
        return lowest(sum, MILLION, part);
    }

    public int book(int d) {
        if (d == -1) {
            winter.booked = 0;
            return 0;
        }
        if (!isDrawNumber(d)) {
            return BAD;
        }
        if (winter.booked >= BOOK_MOST) {
            return FULL;
        }
        winter.book[winter.booked] = d;
        winter.booked++;
        return winter.booked;
    }

    public int looked() {
        return winter.firstShortOfBook();
    }

    // ---- judging, the image, acts, tapes

    public int judge(int tape, int i) {
        Tape row = tapeAt(tape);
        if (row == null) {
            return NONE;
        }
        if (row.sort != Tape.EMPTY && row.sort != Tape.INTS) {
            return CAST;
        }
        for (int d = 0; d < winter.drawers; d++) {
            // an i that is no place ends it at the first drawer, so the sum is never far from the row
            if (!row.has(i + d)) {
                return 100 + d;
            }
            if (row.items[i + d] != winter.sents[d]) {
                return d;
            }
        }
        return NOBODY;
    }

    public int image() {
        kept.become(winter);
        isKept = true;
        return kept.drawers;
    }

    public int undo() {
        if (!isKept) {
            return STATE;
        }
        winter.become(kept);
        return winter.drawers;
    }

    public int act(int drawer, int act, int x) {
        acts.ran = 0;
        if (!winter.has(drawer) || act < 0 || act >= Acts.SORTS) {
            return 0;
        }
        return acts.begin(drawer, winter.kinds[drawer], winter.numbers[drawer], act, x);
    }

    public int trace(int i) {
        return i < 0 || i >= acts.ran || i >= Acts.KEPT_MOST ? NONE : acts.bodies[i];
    }

    public int taken(int drawer, int k) {
        if (k < 0 || k >= KINDS) {
            return BAD;
        }
        if (!winter.has(drawer)) {
            return NOTHING;
        }
        return isKindOf(winter.kinds[drawer], k) ? winter.kinds[drawer] : CAST;
    }

    public int count(int what) {
        switch (what) {
            case 0: return winter.drawers;
            case 1: return huts;
            case 2: return winter.seen;
            case 3: return winter.booked;
            case 4: return reader.length;
            case 5: return acts.ran;
            default: return BAD;
        }
    }

    public int tape(int tape, int sort, int n) {
        Tape one = tapeAt(tape);
        if (one == null) {
            return NONE;
        }
        if (sort == Tape.EMPTY) {
            one.become(Tape.EMPTY, 0);
            return 1;
        }
        if (sort < 0 || sort >= Tape.SORTS || n > TAPE_MOST) {
            return BAD;
        }
        if (n < 0) {
            return SIZE;
        }
        one.become(sort, n);
        return 1;
    }

    public int item(int tape, int i, long v) {
        Tape one = tapeAt(tape);
        if (one == null) {
            return NONE;
        }
        if (one.sort == Tape.EMPTY) {
            return NOTHING;
        }
        if (!one.has(i)) {
            return PLACE;
        }
        one.items[i] = one.cut(v);
        return 1;
    }

    public long read(int tape, int i) {
        Tape one = tapeAt(tape);
        return one == null || !one.has(i) ? NO : one.items[i];
    }

    public int shift(int tape, int i, int other, int j, int n) {
        Tape from = tapeAt(tape);
        Tape to = tapeAt(other);
        if (from == null || to == null) {
            return NONE;
        }
        if (from.sort == Tape.EMPTY || to.sort == Tape.EMPTY) {
            return NOTHING;
        }
        if (from.sort != to.sort) {
            return CAST;
        }
        if (!from.hasRun(i, n) || !to.hasRun(j, n)) {
            return PLACE;
        }
        System.arraycopy(from.items, i, to.items, j, n);
        return n;
    }

    // ---- what several calls use

    private static boolean isDrawNumber(int d) {
        return d >= 0 && d < MILLION;
    }

    private static boolean isPart(int part) {
        return part == 0 || part == 1;
    }

    private static boolean isChosen(int m) {
        return m >= 1 && m <= CHOSEN_MOST;
    }

    private static boolean isKindOf(int kind, int k) {
        int at = kind;
        for (int up = 0; up < KINDS && at >= 0; up++) {
            if (at == k) {
                return true;
            }
            at = ABOVE[at];
        }
        return false;
    }

    private Tape tapeAt(int tape) {
        return tape < 0 || tape >= TAPES ? null : tapes[tape];
    }

    /** The least k by which base to the power of k is m or more. */
    private static int throwsFor(int base, int m) {
        int k = 0;
        while (k < CHOSEN_MOST && power(base, k) < m) {
            k++;
        }
        return k;
    }

    private static long power(int base, int k) {
        long power = 1;
        for (int i = 0; i < k; i++) {
            power *= base;
        }
        return power;
    }

    private static long lowest(long above, long below, int part) {
        long common = commonDivisor(above, below);
        if (common <= 0) {
            return NO;
        }
        return (part == 0 ? above : below) / common;
    }

    private static long commonDivisor(long a, long b) {
        long greater = a;
        long less = b;
        // Euclid needs fewer than a hundred rounds for any two longs
        for (int i = 0; i < 100 && less != 0; i++) {
            long rest = greater % less;
            greater = less;
            less = rest;
        }
        return greater;
    }

    private static void firstOrder(int[] order, int n) {
        for (int k = 0; k < n; k++) {
            order[k] = k;
        }
    }

    /** Makes of the first n of an order the next one as a row; false: it was the last. */
    private static boolean stepOrder(int[] order, int n) {
        int low = n - 2;
        while (low >= 0 && order[low] > order[low + 1]) {
            low--;
        }
        if (low < 0) {
            return false;
        }
        int high = n - 1;
        while (high > low && order[high] < order[low]) {
            high--;
        }
        swap(order, low, high);
        int left = low + 1;
        int right = n - 1;
        while (left < right) {
            swap(order, left, right);
            left++;
            right--;
        }
        return true;
    }

    private static void swap(int[] order, int i, int j) {
        int held = order[i];
        order[i] = order[j];
        order[j] = held;
    }

    /** All that THE IMAGE keeps: the drawers, their order, the fist, the night, what is seen, the book, the hut. */
    private static final class Winter {
        int drawers = 0;
        final int[] kinds = new int[DRAWERS_MOST];
        final int[] numbers = new int[DRAWERS_MOST];
        final int[] sents = new int[DRAWERS_MOST];
        final int[][] rows = new int[DRAWERS_MOST][ROW_LENGTH];
        final int[] order = new int[DRAWERS_MOST];
        int shorts = 1;
        int longs = 0;
        int drawn = 0;
        int night = 0;
        int seen = 0;
        final int[] seenNumbers = new int[SEEN_MOST];
        final int[] seenShorts = new int[SEEN_MOST];
        int booked = 0;
        final int[] book = new int[BOOK_MOST];
        Hut hut = new Hut();
        private final int[] letters = new int[Hut.LETTERS];

        boolean has(int drawer) {
            return drawer >= 0 && drawer < drawers;
        }

        int welcome(int kind, int v) {
            int drawer = drawers;
            kinds[drawer] = kind;
            numbers[drawer] = v;
            sents[drawer] = 0;
            Arrays.fill(rows[drawer], 5);
            order[drawer] = drawer;
            drawers++;
            makeWhole();
            return drawer;
        }

        void become(Winter other) {
            drawers = other.drawers;
            System.arraycopy(other.kinds, 0, kinds, 0, DRAWERS_MOST);
            System.arraycopy(other.numbers, 0, numbers, 0, DRAWERS_MOST);
            System.arraycopy(other.sents, 0, sents, 0, DRAWERS_MOST);
            for (int d = 0; d < DRAWERS_MOST; d++) {
                System.arraycopy(other.rows[d], 0, rows[d], 0, ROW_LENGTH);
            }
            System.arraycopy(other.order, 0, order, 0, DRAWERS_MOST);
            shorts = other.shorts;
            longs = other.longs;
            drawn = other.drawn;
            night = other.night;
            seen = other.seen;
            System.arraycopy(other.seenNumbers, 0, seenNumbers, 0, SEEN_MOST);
            System.arraycopy(other.seenShorts, 0, seenShorts, 0, SEEN_MOST);
            booked = other.booked;
            System.arraycopy(other.book, 0, book, 0, BOOK_MOST);
            hut = other.hut;
        }

        int wholeShorts() {
            return hut.shorts;
        }

        int wholeLongs() {
            return Math.max(0, drawers + hut.longsMore - hut.shorts);
        }

        void makeWhole() {
            shorts = wholeShorts();
            longs = wholeLongs();
            drawn = 0;
        }

        int placeOf(int drawer) {
            int place = 0;
            while (place < drawers - 1 && order[place] != drawer) {
                place++;
            }
            return place;
        }

        /** Writes THE ORDER as it were, had the drawer place k of it. */
        void orderWith(int drawer, int k, int[] into) {
            int from = 0;
            for (int to = 0; to < drawers; to++) {
                if (to == k) {
                    into[to] = drawer;
                    continue;
                }
                if (from < drawers && order[from] == drawer) {
                    from++;
                }
                if (from < drawers) {
                    into[to] = order[from];
                    from++;
                }
            }
        }

        int next() {
            return drawn < drawers ? order[drawn] : NOBODY;
        }

        int drawNext(int d) {
            int who = order[drawn];
            boolean isShort = d < chance(who, drawn, shorts, longs);
            if (isShort) {
                shorts--;
                sents[who] = Math.min(SENT_MOST, sents[who] + 1);
            } else {
                longs--;
            }
            drawn++;
            boolean isEnd = shorts == 0 || drawn == drawers;
            if (isEnd) {
                night++;
                makeWhole();
            }
            return who + (isShort ? 10 : 0) + (isEnd ? 100 : 0);
        }

        int chance(int who, int place, int shortsThen, int longsThen) {
            if (shortsThen <= 0) {
                return 0;
            }
            if (longsThen <= 0) {
                return MILLION;
            }
            long liked = (long) shortsThen * pull(who, place, shortsThen, longsThen);
            return (int) (MILLION * liked / (liked + longsThen * LONG_PULL));
        }

        int pull(int who, int place, int shortsThen, int longsThen) {
            int kind = kinds[who];
            if (kind == BLIND) {
                return LONG_PULL;
            }
            if (kind == TOLD) {
                return 2 * rows[who][sents[who] % ROW_LENGTH];
            }
            if (kind == KNOWING && longsThen >= shortsThen) {
                return 0;
            }
            letters[Hut.OWN_NUMBER] = who;
            letters[Hut.OWN_KIND] = kind;
            letters[Hut.OWN_SENT] = sents[who] % 10;
            letters[Hut.SHORTS] = shortsThen;
            letters[Hut.LONGS] = longsThen;
            letters[Hut.OWN_PLACE] = place;
            int plain = hut.plain(letters);
            switch (kind) {
                case KEEN:
                case KNOWING: return Math.max(0, plain - numbers[who]);
                case BOLD: return plain + numbers[who];
                case RASH: return 2 * (plain + numbers[who]);
                default: return plain;
            }
        }

        /** Whether all that is seen is so in a night with so many straws. */
        boolean isSeenBy(int shortsWhole, int longsWhole) {
            int shortsThen = shortsWhole;
            int longsThen = longsWhole;
            for (int i = 0; i < seen; i++) {
                if (i >= drawers || shortsThen == 0) {
                    return false;
                }
                boolean isShort = seenNumbers[i] < chance(order[i], i, shortsThen, longsThen);
                if (isShort != (seenShorts[i] == 1)) {
                    return false;
                }
                if (isShort) {
                    shortsThen--;
                } else {
                    longsThen--;
                }
            }
            return true;
        }

        /** Ahead of the first short straw nobody is sent, so SENT stays as it is all the way. */
        int firstShortOfBook() {
            if (drawers == 0) {
                return NOBODY;
            }
            int shortsWhole = wholeShorts();
            int longsWhole = wholeLongs();
            int place = 0;
            for (int i = 0; i < booked; i++) {
                if (book[i] < chance(order[place], place, shortsWhole, longsWhole - place)) {
                    return i;
                }
                place = place + 1 < drawers ? place + 1 : 0;
            }
            return NOBODY;
        }
    }

    /** LIKELY of all by an order, by a whole fist that may have some long straws more. */
    private static final class Likelihood {
        private static final int UNKNOWN = -1;

        final int[] likely = new int[DRAWERS_MOST];
        private final Winter winter;
        private final long[] mass = new long[SHORTS_MOST + 1];
        // a chance hangs on who, place and short ones alone, and best() asks for each many times
        private final int[] chances = new int[DRAWERS_MOST * DRAWERS_MOST * (SHORTS_MOST + 1)];
        private int shorts = 0;
        private int longs = 0;

        Likelihood(Winter winter) {
            this.winter = winter;
        }

        /** Must come ahead of the first order that is asked about in a call. */
        void begin(int longsMore) {
            shorts = winter.wholeShorts();
            longs = winter.wholeLongs() + longsMore;
            Arrays.fill(chances, UNKNOWN);
        }

        int ofOne(int drawer, int[] order) {
            goThrough(order);
            return likely[drawer];
        }

        int evenBy(int[] order) {
            goThrough(order);
            int greatest = likely[0];
            int least = likely[0];
            for (int d = 1; d < winter.drawers; d++) {
                greatest = Math.max(greatest, likely[d]);
                least = Math.min(least, likely[d]);
            }
            return greatest - least;
        }

        void goThrough(int[] order) {
            Arrays.fill(mass, 0);
            mass[shorts] = MILLION;
            for (int place = 0; place < winter.drawers; place++) {
                int who = order[place];
                long all = 0;
                // upward, so that mass[n] still is what it was before this draw
                for (int n = 1; n <= shorts; n++) {
                    long gone = mass[n] == 0 ? 0 : mass[n] * chance(who, place, n) / MILLION;
                    mass[n] -= gone;
                    mass[n - 1] += gone;
                    all += gone;
                }
                likely[who] = (int) all;
            }
        }

        private int chance(int who, int place, int n) {
            int at = (who * DRAWERS_MOST + place) * (SHORTS_MOST + 1) + n;
            if (chances[at] == UNKNOWN) {
                chances[at] = winter.chance(who, place, n, shorts + longs - place - n);
            }
            return chances[at];
        }
    }

    /**
     * What a text says, as signs to be worked off from the left: a test lays a truth on a stack,
     * what joins truths and the clause that waits for one stand behind them.
     */
    private static final class Hut {
        static final int OWN_NUMBER = 0, OWN_KIND = 1, OWN_SENT = 2, SHORTS = 3, LONGS = 4, OWN_PLACE = 5, LETTERS = 6;
        static final int TEST = 0, NOT = 1, AND = 2, OR = 3, LEAN = 4, SHY = 5, SHORT = 6, MORE = 7;
        private static final int LESS = 0, SAME = 1, GREATER = 2;

        final int shorts;
        final int longsMore;
        private final int[] signs;

        /** Stands for no hut. */
        Hut() {
            shorts = 1;
            longsMore = 0;
            signs = new int[0];
        }

        Hut(int shortsTold, int longsMoreTold, int[] signsTold) {
            shorts = Math.max(1, Math.min(SHORTS_MOST, shortsTold));
            longsMore = Math.min(LONGS_MORE_MOST, longsMoreTold);
            signs = signsTold;
        }

        static int test(int letter, int compared, int number) {
            return TEST | letter << 3 | compared << 6 | number << 8;
        }

        static int clause(int sort, int n) {
            return sort | n << 3;
        }

        int plain(int[] letters) {
            int plain = PLAIN_PULL;
            // a bit for each truth, the newest lowest; four levels of nesting leave some ten open at most
            int truths = 0;
            for (int i = 0; i < signs.length; i++) {
                int sign = signs[i];
                switch (sign & 7) {
                    case NOT:
                        truths ^= 1;
                        break;
                    case AND:
                        truths = (truths >> 1) & (truths | ~1);
                        break;
                    case OR:
                        truths = (truths >> 1) | (truths & 1);
                        break;
                    case LEAN:
                        plain += (truths & 1) * (sign >> 3);
                        truths = 0;
                        break;
                    case SHY:
                        plain -= (truths & 1) * (sign >> 3);
                        truths = 0;
                        break;
                    default:
                        int letter = (sign >> 3) & 7;
                        int value = letter < LETTERS ? letters[letter] : 0;
                        int number = sign >> 8;
                        int found = value < number ? LESS : value == number ? SAME : GREATER;
                        truths = (truths << 1) | (found == ((sign >> 6) & 3) ? 1 : 0);
                        break;
                }
            }
            return Math.max(0, plain);
        }
    }

    /** THE TEXT, and the reading of it from the left: when a reading fails, at is the FAULT. */
    private static final class HutReader {
        private static final int CLAUSES_MOST = 10, NESTED_MOST = 4;
        private static final int END = -1;
        // in the order of the hut's numbers for them
        private static final String LETTERS = "dknslp", COMPARED = "<=>";

        int length = 0;
        int at = 0;
        // one more than a text has, for the END behind it
        private final int[] text = new int[TEXT_MOST + 1];
        private int shorts = 1;
        private int longsMore = 0;
        private int signsRead = 0;
        // each stands for a byte of the text at least
        private final int[] signs = new int[TEXT_MOST];

        int add(int sign) {
            text[length] = sign;
            length++;
            return length;
        }

        boolean readsAll() {
            text[length] = END;
            at = 0;
            shorts = 1;
            longsMore = 0;
            signsRead = 0;
            for (int clauses = 1; clauses <= CLAUSES_MOST; clauses++) {
                if (!readsClause()) {
                    return false;
                }
                if (at == length) {
                    return true;
                }
                if (clauses == CLAUSES_MOST || !reads(';')) {
                    return false;
                }
            }
            return false;
        }

        Hut newHut() {
            return new Hut(shorts, longsMore, Arrays.copyOf(signs, signsRead));
        }

        private boolean readsClause() {
            int sort = word();
            if (sort < 0 || !reads(' ')) {
                return false;
            }
            int n = number();
            if (n < 0) {
                return false;
            }
            if (sort == Hut.SHORT) {
                shorts = n;
                return true;
            }
            if (sort == Hut.MORE) {
                longsMore = n;
                return true;
            }
            if (!reads(' ') || !readsEither(0)) {
                return false;
            }
            keep(Hut.clause(sort, n));
            return true;
        }

        private int word() {
            if (text[at] == 'l') {
                return readsWord("lean") ? Hut.LEAN : -1;
            }
            if (text[at] == 'm') {
                return readsWord("more") ? Hut.MORE : -1;
            }
            if (!readsWord("sh")) {
                return -1;
            }
            if (reads('y')) {
                return Hut.SHY;
            }
            return readsWord("ort") ? Hut.SHORT : -1;
        }

        /** An E in one loop: an & is joined as soon as it can be, an | waits while & goes on. */
        private boolean readsEither(int nested) {
            boolean waitsAnd = false;
            boolean waitsOr = false;
            // a round reads a byte at least
            for (int i = 0; i < TEXT_MOST; i++) {
                if (!readsFactor(nested)) {
                    return false;
                }
                if (waitsAnd) {
                    keep(Hut.AND);
                }
                waitsAnd = reads('&');
                if (waitsAnd) {
                    continue;
                }
                if (waitsOr) {
                    keep(Hut.OR);
                }
                waitsOr = reads('|');
                if (!waitsOr) {
                    return true;
                }
            }
            return false;
        }

        /** An F; a ( or ! that is nested too deep begins no test either, so that the fault is at it. */
        private boolean readsFactor(int nested) {
            int deeper = nested;
            while (deeper < NESTED_MOST && reads('!')) {
                deeper++;
            }
            boolean isRead;
            if (deeper < NESTED_MOST && reads('(')) {
                isRead = readsEither(deeper + 1) && reads(')');
            } else {
                isRead = readsTest();
            }
            for (int nots = deeper - nested; isRead && nots > 0; nots--) {
                keep(Hut.NOT);
            }
            return isRead;
        }

        private boolean readsTest() {
            int letter = oneOf(LETTERS);
            int compared = letter < 0 ? -1 : oneOf(COMPARED);
            int number = compared < 0 ? -1 : number();
            if (number < 0) {
                return false;
            }
            keep(Hut.test(letter, compared, number));
            return true;
        }

        /** One digit or two; -1: there is none. */
        private int number() {
            int n = -1;
            for (int i = 0; i < 2 && text[at] >= '0' && text[at] <= '9'; i++) {
                n = (n < 0 ? 0 : n * 10) + text[at] - '0';
                at++;
            }
            return n;
        }

        /** Which of the bytes is next; -1: none of them. */
        private int oneOf(String bytes) {
            int found = text[at] == END ? -1 : bytes.indexOf((char) text[at]);
            if (found >= 0) {
                at++;
            }
            return found;
        }

        private boolean readsWord(String word) {
            for (int i = 0; i < word.length(); i++) {
                if (!reads(word.charAt(i))) {
                    return false;
                }
            }
            return true;
        }

        private boolean reads(int sign) {
            if (text[at] != sign) {
                return false;
            }
            at++;
            return true;
        }

        private void keep(int sign) {
            if (signsRead < TEXT_MOST) {
                signs[signsRead] = sign;
                signsRead++;
            }
        }
    }

    /** The bodies of the kinds, found from a kind on upward, and the trace of those that ran. */
    private static final class Acts {
        static final int DRAWS = 0, SHOWS = 1, TELLS = 2, SORTS = 3, KEPT_MOST = 20;
        // a body calls only a body above itself or one of an act ahead of its own, so six stand open at most
        private static final int DEPTH_MOST = 20;
        // of each kind the body that it has for each act, 0 where it has none
        private static final int[] BODIES = {
            10, 11, 12,
            0, 20, 0,
            30, 0, 0,
            0, 0, 40,
            50, 51, 0,
            0, 0, 60,
            71, 70, 0,
        };

        int ran = 0;
        final int[] bodies = new int[KEPT_MOST];
        private int number = 0;
        private int kind = 0;
        private int v = 0;

        int begin(int numberOfIt, int kindOfIt, int vOfIt, int act, int x) {
            number = numberOfIt;
            kind = kindOfIt;
            v = vOfIt;
            ran = 0;
            return run(kind, act, x, 0);
        }

        private int run(int from, int act, int x, int depth) {
            if (depth > DEPTH_MOST) {
                return 0;
            }
            int body = bodyOf(from, act);
            keep(body);
            return work(body, x, depth + 1);
        }

        private int work(int body, int x, int deeper) {
            switch (body) {
                case 10: return x + number;
                case 11: return run(kind, DRAWS, x, deeper) - v;
                case 12: return run(kind, SHOWS, x, deeper) * 2;
                case 20: return run(ABOVE[KEEN], SHOWS, x, deeper) ^ 6;
                case 30: return run(ABOVE[BOLD], DRAWS, x * 3, deeper);
                case 40: return run(ABOVE[BLIND], TELLS, x, deeper) + run(kind, SHOWS, 1, deeper);
                case 50: return -run(ABOVE[KNOWING], DRAWS, x, deeper);
                case 51: return run(ABOVE[KNOWING], SHOWS, x + 1, deeper);
                case 60: return run(ABOVE[RASH], TELLS, x - number, deeper);
                case 70: return run(ABOVE[TOLD], SHOWS, x, deeper) + run(ABOVE[TOLD], DRAWS, 2, deeper);
                case 71: return run(ABOVE[TOLD], DRAWS, x, deeper) ^ v;
                default: return 0;
            }
        }

        private static int bodyOf(int from, int act) {
            int k = from;
            for (int up = 0; up < KINDS && k >= 0; up++) {
                int body = BODIES[k * SORTS + act];
                if (body != 0) {
                    return body;
                }
                k = ABOVE[k];
            }
            return 0;
        }

        private void keep(int body) {
            if (ran < KEPT_MOST) {
                bodies[ran] = body;
            }
            ran++;
        }
    }

    /** A row, or nothing; an item is held as a long that is no wider than its sort. */
    private static final class Tape {
        static final int EMPTY = -1, BYTES = 0, SHORTS = 1, INTS = 2, LONGS = 3, BOOLEANS = 4, SORTS = 5;

        int sort = EMPTY;
        int length = 0;
        final long[] items = new long[TAPE_MOST];

        void become(int newSort, int newLength) {
            sort = newSort;
            length = newLength;
            Arrays.fill(items, 0);
        }

        boolean has(int i) {
            return i >= 0 && i < length;
        }

        /** Whether n places from i on are there; by a difference, since a sum could wrap. */
        boolean hasRun(int i, int n) {
            return n >= 0 && i >= 0 && i <= length && n <= length - i;
        }

        long cut(long v) {
            switch (sort) {
                case BYTES: return (byte) v;
                case SHORTS: return (short) v;
                case INTS: return (int) v;
                case BOOLEANS: return v != 0 ? 1 : 0;
                default: return v;
            }
        }
    }
}
