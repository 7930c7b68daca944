/**
 * Who gets the plate last: a plate that is handed on round a table, or over a net, by chances.
 * The promises are those of DOC.md; words in capitals there are the names here, but BEGIN is
 * called the start, since no private name may be that of a public method.
 */
public final class PlateLast {
    public static final int UNKNOWN = -1, OUTSIDE = -2, STATE = -3, FULL = -4, NONE = -9;

    private static final int MOST_BYTES = 98;
    private static final int LEAST_SEATS = 2;
    private static final int MOST_SEATS = 8;
    private static final int MOST_HANDS = 30;
    private static final int MOST_SEEN = 8;
    private static final int MOST_SLOTS = 2;
    private static final int MOST_AHEAD = 12;
    private static final int MOST_TO_MEET = 8;
    private static final int MOST_FALLS = 8;
    private static final int MOST_IN_ROW = 9;
    private static final int MOST_BY_RULE = 99;
    private static final int MOST_IN_EVENING = 200;
    private static final int MOST_EVENINGS = 30;
    private static final int TEN = 10;

    private static final int RING = 0;
    private static final int LINE = 1;
    private static final int FREE = 2;

    private static final long SEED_TIMES = 6364136223846793005L;
    private static final long SEED_MORE = 1442695040888963407L;

    private final Text text;
    private final Net draft;
    private final Net net;
    private final Night night;
    private final Night[] slots;
    private final Chances chances;
    private final Means means;
    private final Rows rows;
    private final Evenings evenings;

    public PlateLast() {
        text = new Text();
        draft = new Net();
        net = new Net();
        net.clear(LEAST_SEATS);
        net.lay(RING, TEN / 2);
        night = new Night();
        slots = new Night[MOST_SLOTS];
        for (int slot = 0; slot < MOST_SLOTS; slot++) {
            slots[slot] = new Night();
        }
        chances = new Chances();
        means = new Means();
        rows = new Rows();
        evenings = new Evenings();
    }

    // ---- the table

    public int write(int n, long v) {
        if (n < 1 || n > 8) {
            return OUTSIDE;
        }
        if (text.length + n > MOST_BYTES) {
            return FULL;
        }
        for (int left = n - 1; left >= 0; left--) {
            text.add((int) ((v >>> (8 * left)) & 255L));
        }
        return text.length;
    }

    public int wipe() {
        int length = text.length;
        text.length = 0;
        return length;
    }

    public int fault() {
        return text.readInto(draft);
    }

    public int table() {
        if (text.readInto(draft) != NONE) {
            return STATE;
        }
        net.copyFrom(draft);
        night.startAt(0);
        night.seenCount = 0;
        for (int slot = 0; slot < MOST_SLOTS; slot++) {
            slots[slot].kept = false;
        }
        return net.seats;
    }

    public int chance(int from, int to) {
        if (!net.has(from) || !net.has(to)) {
            return UNKNOWN;
        }
        return net.tenthsOf(from, to);
    }

    public int begin(int seat) {
        if (!net.has(seat)) {
            return UNKNOWN;
        }
        int before = night.start;
        night.startAt(seat);
        return before;
    }

    public int hand(int seat) {
        if (!net.has(seat)) {
            return UNKNOWN;
        }
        if (net.tenthsOf(night.place, seat) == 0) {
            return STATE;
        }
        if (night.handCount >= MOST_HANDS) {
            return FULL;
        }
        night.handTo(seat);
        return night.had;
    }

    public int back() {
        if (night.handCount < 1) {
            return STATE;
        }
        night.takeBack();
        return night.handCount;
    }

    // ---- chances

    public long at(int n, int seat, boolean upper) {
        if (!net.has(seat)) {
            return UNKNOWN;
        }
        if (n < 0 || n > MOST_AHEAD) {
            return OUTSIDE;
        }
        return leastTerms(chances.weightAt(net, night.place, n, seat), power(TEN, n), upper);
    }

    public long all(int n, boolean upper) {
        if (n < 0 || n > MOST_AHEAD) {
            return OUTSIDE;
        }
        if (night.had == net.allBits()) {
            return 1;
        }
        chances.weighLast(net, night.place, night.had, n);
        long above = 0;
        for (int seat = 0; seat < net.seats; seat++) {
            above += chances.lastWeight(seat);
        }
        return leastTerms(above, power(TEN, n), upper);
    }

    public long last(int n, int seat, boolean upper) {
        if (!net.has(seat)) {
            return UNKNOWN;
        }
        if (n < 0 || n > MOST_AHEAD) {
            return OUTSIDE;
        }
        chances.weighLast(net, night.place, night.had, n);
        return leastTerms(chances.lastWeight(seat), power(TEN, n), upper);
    }

    public int sit(int n) {
        if (n < 0 || n > MOST_AHEAD) {
            return OUTSIDE;
        }
        chances.weighLast(net, night.start, 1 << night.start, n);
        int best = NONE;
        long least = 0;
        for (int seat = 0; seat < net.seats; seat++) {
            long weight = chances.lastWeight(seat);
            if (seat != night.start && (best == NONE || weight < least)) {
                best = seat;
                least = weight;
            }
        }
        return best;
    }

    public long end(int seat, boolean upper) {
        if (!net.has(seat)) {
            return UNKNOWN;
        }
        if (net.kind != RING || net.penny < 1 || net.seats < 3) {
            return STATE;
        }
        int steps = seat - night.start;
        if (steps < 0) {
            steps += net.seats;
        }
        long below = 0;
        for (int other = 1; other < net.seats; other++) {
            below += ringWeight(other);
        }
        return leastTerms(steps == 0 ? 0 : ringWeight(steps), below, upper);
    }

    public long mean(int from, int to, boolean upper) {
        if (!net.has(from) || !net.has(to)) {
            return UNKNOWN;
        }
        if (!means.solve(net, from, to)) {
            return NONE;
        }
        return leastTerms(means.above, means.below, upper);
    }

    public long round(int from, int to, boolean upper) {
        if (!net.has(from) || !net.has(to)) {
            return UNKNOWN;
        }
        if (!means.solve(net, from, to)) {
            return NONE;
        }
        long above = means.above;
        long below = means.below;
        if (!means.solve(net, to, from)) {
            return NONE;
        }
        return leastTerms(above * means.below + means.above * below, below * means.below, upper);
    }

    public long meet(int one, int other, int n, boolean upper) {
        if (!net.has(one) || !net.has(other)) {
            return UNKNOWN;
        }
        if (n < 0 || n > MOST_TO_MEET) {
            return OUTSIDE;
        }
        return leastTerms(chances.meetWeight(net, one, other, n), power(TEN * TEN, n), upper);
    }

    // ---- pennies, rows

    public long penny(int x, int k, int m, boolean upper) {
        if (x < 1 || x > TEN - 1 || k < 0 || k > MOST_FALLS || m < 0 || m > MOST_FALLS) {
            return OUTSIDE;
        }
        long below = 0;
        for (int bent = 1; bent < TEN; bent++) {
            below += power(bent, k) * power(TEN - bent, m);
        }
        return leastTerms(power(x, k) * power(TEN - x, m), below, upper);
    }

    public int judge(int n, int row) {
        if (isNoRow(n, row)) {
            return OUTSIDE;
        }
        return rows.firstWrong(net, night.start, n, row);
    }

    public long likely(int n, int row, boolean upper) {
        if (isNoRow(n, row)) {
            return OUTSIDE;
        }
        return leastTerms(rows.weightOf(net, night.start, n, row), power(TEN, n), upper);
    }

    public int see(int t, int seat) {
        if (!net.has(seat)) {
            return UNKNOWN;
        }
        if (t < 1 || t > MOST_IN_ROW) {
            return OUTSIDE;
        }
        if (night.seenCount >= MOST_SEEN) {
            return FULL;
        }
        night.addSeen(t, seat);
        return night.seenCount;
    }

    public int unsee() {
        int before = night.seenCount;
        night.seenCount = 0;
        return before;
    }

    public int ways(int n) {
        if (n < 1 || n > MOST_IN_ROW) {
            return OUTSIDE;
        }
        return chances.waysOf(net, night, n);
    }

    public int likeliest(int n) {
        if (n < 1 || n > MOST_IN_ROW) {
            return OUTSIDE;
        }
        return rows.likeliestOf(net, night, n);
    }

    // ---- rules, evenings

    public int rule() {
        return evenings.handsByRule(net, night.start);
    }

    public long seed(long v) {
        long before = night.seedNow;
        night.seedNow = v;
        return before;
    }

    public int evening() {
        return evenings.drawOne(net, night);
    }

    public int uncle(int m, int seat) {
        if (!net.has(seat)) {
            return UNKNOWN;
        }
        if (m < 1 || m > MOST_EVENINGS) {
            return OUTSIDE;
        }
        int times = 0;
        for (int drawn = 0; drawn < m; drawn++) {
            int told = evenings.drawOne(net, night);
            if (told != NONE && told % TEN == seat) {
                times++;
            }
        }
        return times;
    }

    // ---- slots

    public int keep(int slot) {
        if (slot < 0 || slot >= MOST_SLOTS) {
            return UNKNOWN;
        }
        slots[slot].copyFrom(night);
        slots[slot].kept = true;
        return night.handCount;
    }

    public int again(int slot) {
        if (slot < 0 || slot >= MOST_SLOTS) {
            return UNKNOWN;
        }
        if (!slots[slot].kept) {
            return STATE;
        }
        night.copyFrom(slots[slot]);
        return night.handCount;
    }

    public int count(int what) {
        switch (what) {
            case 0:
                return text.length;
            case 1:
                return net.seats;
            case 2:
                return night.start;
            case 3:
                return night.place;
            case 4:
                return night.had;
            case 5:
                return night.handCount;
            case 6:
                return night.seenCount;
            case 7:
                return net.kind;
            default:
                return OUTSIDE;
        }
    }

    // ---- what several calls need

    private static boolean isNoRow(int n, int row) {
        return n < 1 || n > MOST_IN_ROW || row < 0 || row >= power(TEN, n);
    }

    /**
     * The gambler's ruin, once to a neighbour of the seat and once round to the other one, leaves
     * of the chance to be last only this weight, when what all the seats share is taken out.
     */
    private long ringWeight(int steps) {
        return power(net.penny, steps - 1) * power(TEN - net.penny, net.seats - 1 - steps);
    }

    private static long power(long base, int times) {
        long product = 1;
        for (int time = 0; time < times; time++) {
            product *= base;
        }
        return product;
    }

    private static long leastTerms(long above, long below, boolean upper) {
        long shared = sharedDivisor(above, below);
        if (shared < 1) {
            return upper ? above : below;
        }
        return upper ? above / shared : below / shared;
    }

    /** Two longs are through in less than a hundred steps: each two of them at least halve. */
    private static long sharedDivisor(long one, long other) {
        long greater = one;
        long lesser = other;
        for (int step = 0; step < 200 && lesser != 0; step++) {
            long left = greater % lesser;
            greater = lesser;
            lesser = left;
        }
        return greater;
    }

    /** THE TEXT, and how it is read. */
    private static final class Text {
        final int[] bytes = new int[MOST_BYTES];
        int length;

        void add(int value) {
            if (length >= 0 && length < MOST_BYTES) {
                bytes[length] = value;
                length++;
            }
        }

        /**
         * A byte that is not there yet is -1: it is right nowhere, and so its place, the length,
         * is told as the fault by the same tests as that of a wrong byte.
         */
        int byteAt(int place) {
            if (place < 0 || place >= length || place >= MOST_BYTES) {
                return -1;
            }
            return bytes[place];
        }

        int figureAt(int place) {
            int value = byteAt(place);
            return value >= '0' && value <= '9' ? value - '0' : -1;
        }

        /** The FAULT; if it is NONE, the draft is the TABLE that is told. */
        int readInto(Net draft) {
            if (byteAt(0) != 'T') {
                return 0;
            }
            int seats = figureAt(1);
            if (seats < LEAST_SEATS || seats > MOST_SEATS) {
                return 1;
            }
            draft.clear(seats);
            int sign = byteAt(2);
            if (sign == 'R') {
                return readPenny(draft, RING);
            }
            if (sign == 'W') {
                return readPenny(draft, LINE);
            }
            return readFree(draft);
        }

        private int readPenny(Net draft, int kind) {
            int x = figureAt(3);
            if (x < 0) {
                return 3;
            }
            if (length > 4) {
                return 4;
            }
            draft.lay(kind, x);
            return NONE;
        }

        private int readFree(Net draft) {
            for (int place = 2; place < length; place += 4) {
                int wrong = readOne(draft, place);
                if (wrong != NONE) {
                    return wrong;
                }
            }
            if (!draft.isWhole()) {
                return length;
            }
            draft.layStays();
            return NONE;
        }

        private int readOne(Net draft, int place) {
            if (byteAt(place) != 'H' || !draft.hasRoom()) {
                return place;
            }
            int from = figureAt(place + 1);
            if (!draft.hasRoomFrom(from)) {
                return place + 1;
            }
            int to = figureAt(place + 2);
            if (!draft.isFree(from, to)) {
                return place + 2;
            }
            int x = figureAt(place + 3);
            int tenths = x == 0 ? TEN : x;
            if (!draft.canTell(from, tenths)) {
                return place + 3;
            }
            draft.tell(from, to, tenths);
            return NONE;
        }
    }

    /** A TABLE: by how many tenths each SEAT gets the plate from each; where it stays, itself by ten. */
    private static final class Net {
        final int[] tenths = new int[MOST_SEATS * MOST_SEATS];
        final int[] toldFrom = new int[MOST_SEATS];
        final int[] wayCount = new int[MOST_SEATS];
        int seats;
        int kind;
        int penny;

        void clear(int newSeats) {
            seats = newSeats;
            kind = FREE;
            penny = 0;
            for (int i = 0; i < MOST_SEATS * MOST_SEATS; i++) {
                tenths[i] = 0;
            }
            for (int seat = 0; seat < MOST_SEATS; seat++) {
                toldFrom[seat] = 0;
                wayCount[seat] = 0;
            }
        }

        void copyFrom(Net other) {
            clear(other.seats);
            kind = other.kind;
            penny = other.penny;
            for (int i = 0; i < MOST_SEATS * MOST_SEATS; i++) {
                tenths[i] = other.tenths[i];
            }
        }

        boolean has(int seat) {
            return seat >= 0 && seat < seats && seat < MOST_SEATS;
        }

        int allBits() {
            return (1 << seats) - 1;
        }

        int tenthsOf(int from, int to) {
            return has(from) && has(to) ? tenths[from * MOST_SEATS + to] : 0;
        }

        /** It adds, since on a ring of two the next one and the one ahead are the same. */
        void tell(int from, int to, int x) {
            if (has(from) && has(to)) {
                tenths[from * MOST_SEATS + to] += x;
                toldFrom[from] += x;
                wayCount[from]++;
            }
        }

        void lay(int newKind, int x) {
            kind = newKind;
            penny = x;
            int end = seats - 1;
            for (int seat = 0; seat <= end; seat++) {
                int next = seat < end ? seat + 1 : 0;
                int ahead = seat > 0 ? seat - 1 : end;
                if (newKind == LINE && seat == 0) {
                    tell(seat, next, TEN);
                } else if (newKind == LINE && seat == end) {
                    tell(seat, ahead, TEN);
                } else {
                    tell(seat, next, x);
                    tell(seat, ahead, TEN - x);
                }
            }
        }

        void layStays() {
            for (int seat = 0; seat < seats; seat++) {
                if (has(seat) && toldFrom[seat] == 0) {
                    tell(seat, seat, TEN);
                }
            }
        }

        boolean stays(int seat) {
            return tenthsOf(seat, seat) > 0;
        }

        boolean hasRoom() {
            for (int seat = 0; seat < seats; seat++) {
                if (hasRoomFrom(seat)) {
                    return true;
                }
            }
            return false;
        }

        boolean hasRoomFrom(int seat) {
            return has(seat) && toldFrom[seat] < TEN;
        }

        boolean isFree(int from, int to) {
            return has(from) && has(to) && from != to && tenthsOf(from, to) == 0;
        }

        /** What is less than ten together must leave another SEAT for the rest, or it never gets whole. */
        boolean canTell(int from, int x) {
            if (!has(from) || x < 1) {
                return false;
            }
            int together = toldFrom[from] + x;
            return together == TEN || together < TEN && wayCount[from] + 1 < seats - 1;
        }

        boolean isWhole() {
            for (int seat = 0; seat < seats; seat++) {
                if (has(seat) && toldFrom[seat] > 0 && toldFrom[seat] < TEN) {
                    return false;
                }
            }
            return true;
        }
    }

    /** What SLOTS keep: the start, THE PLATE and its HANDS, THE SEED, what is SEEN. */
    private static final class Night {
        final int[] hands = new int[MOST_HANDS];
        final int[] seenTimes = new int[MOST_SEEN];
        final int[] seenSeats = new int[MOST_SEEN];
        int start;
        int place;
        int had = 1;
        int handCount;
        int seenCount;
        long seedNow;
        boolean kept;

        void copyFrom(Night other) {
            start = other.start;
            place = other.place;
            had = other.had;
            handCount = other.handCount;
            seenCount = other.seenCount;
            seedNow = other.seedNow;
            for (int i = 0; i < MOST_HANDS; i++) {
                hands[i] = other.hands[i];
            }
            for (int i = 0; i < MOST_SEEN; i++) {
                seenTimes[i] = other.seenTimes[i];
                seenSeats[i] = other.seenSeats[i];
            }
        }

        void startAt(int seat) {
            start = seat;
            place = seat;
            had = 1 << seat;
            handCount = 0;
        }

        void handTo(int seat) {
            if (handCount >= 0 && handCount < MOST_HANDS) {
                hands[handCount] = seat;
                handCount++;
                place = seat;
                had |= 1 << seat;
            }
        }

        /** Who HAD it is told anew from the start: the one taken back may have had it before. */
        void takeBack() {
            int left = handCount - 1;
            startAt(start);
            for (int i = 0; i < left && i < MOST_HANDS; i++) {
                handTo(hands[i]);
            }
        }

        void addSeen(int time, int seat) {
            if (seenCount >= 0 && seenCount < MOST_SEEN) {
                seenTimes[seenCount] = time;
                seenSeats[seenCount] = seat;
                seenCount++;
            }
        }

        boolean fits(int time, int seat) {
            for (int i = 0; i < seenCount && i < MOST_SEEN; i++) {
                if (seenTimes[i] == time && seenSeats[i] != seat) {
                    return false;
                }
            }
            return true;
        }
    }

    /** Weights of states; those that have one stand in a row, so that no one looks at all the others. */
    private static final class Spread {
        static final int STATES = 256 * MOST_SEATS;
        final long[] weights = new long[STATES];
        final int[] live = new int[STATES];
        int size;

        void clear() {
            for (int i = 0; i < size && i < STATES; i++) {
                int state = live[i];
                if (state >= 0 && state < STATES) {
                    weights[state] = 0;
                }
            }
            size = 0;
        }

        void add(int state, long weight) {
            if (weight == 0 || state < 0 || state >= STATES) {
                return;
            }
            if (weights[state] == 0 && size >= 0 && size < STATES) {
                live[size] = state;
                size++;
            }
            weights[state] += weight;
        }

        int stateAt(int i) {
            return i >= 0 && i < size && i < STATES ? live[i] : 0;
        }

        long weightOf(int state) {
            return state >= 0 && state < STATES ? weights[state] : 0;
        }
    }

    /** Chances, as weights: how many of the ten, hundred, .. like cases of n HANDS. */
    private static final class Chances {
        final long[] lastWeights = new long[MOST_SEATS];
        Spread now = new Spread();
        Spread next = new Spread();

        private void startWith(int state) {
            now.clear();
            now.add(state, 1);
        }

        private void stepOn() {
            Spread before = now;
            now = next;
            next = before;
            next.clear();
        }

        long weightAt(Net net, int place, int n, int seat) {
            startWith(place);
            for (int step = 0; step < n; step++) {
                int states = now.size;
                for (int i = 0; i < states; i++) {
                    int from = now.stateAt(i);
                    long weight = now.weightOf(from);
                    for (int to = 0; to < net.seats; to++) {
                        next.add(to, weight * net.tenthsOf(from, to));
                    }
                }
                stepOn();
            }
            return now.weightOf(seat);
        }

        long lastWeight(int seat) {
            return seat >= 0 && seat < MOST_SEATS ? lastWeights[seat] : 0;
        }

        /** A state is who HAD it and where it is; it ends with the hand by which all have HAD it. */
        void weighLast(Net net, int place, int had, int n) {
            for (int seat = 0; seat < MOST_SEATS; seat++) {
                lastWeights[seat] = 0;
            }
            if (had == net.allBits()) {
                return;
            }
            startWith(had * MOST_SEATS + place);
            for (int step = 1; step <= n; step++) {
                long rest = power(TEN, n - step);
                int states = now.size;
                for (int i = 0; i < states; i++) {
                    handOn(net, now.stateAt(i), rest);
                }
                stepOn();
            }
        }

        private void handOn(Net net, int state, long rest) {
            int had = state / MOST_SEATS;
            int from = state % MOST_SEATS;
            long weight = now.weightOf(state);
            for (int to = 0; to < net.seats && to < MOST_SEATS; to++) {
                long more = weight * net.tenthsOf(from, to);
                int hadThen = had | 1 << to;
                if (hadThen == net.allBits()) {
                    lastWeights[to] += more * rest;
                } else {
                    next.add(hadThen * MOST_SEATS + to, more);
                }
            }
        }

        /** A state is where both are; it ends when they meet. */
        long meetWeight(Net net, int one, int other, int n) {
            if (one == other) {
                return power(TEN * TEN, n);
            }
            long met = 0;
            startWith(one * MOST_SEATS + other);
            for (int step = 1; step <= n; step++) {
                long rest = power(TEN * TEN, n - step);
                int states = now.size;
                for (int i = 0; i < states; i++) {
                    met += rest * handBoth(net, now.stateAt(i));
                }
                stepOn();
            }
            return met;
        }

        private long handBoth(Net net, int state) {
            int one = state / MOST_SEATS;
            int other = state % MOST_SEATS;
            long weight = now.weightOf(state);
            long met = 0;
            for (int to = 0; to < net.seats; to++) {
                long more = weight * net.tenthsOf(one, to);
                for (int and = 0; and < net.seats && more != 0; and++) {
                    long both = more * net.tenthsOf(other, and);
                    if (to == and) {
                        met += both;
                    } else {
                        next.add(to * MOST_SEATS + and, both);
                    }
                }
            }
            return met;
        }

        /** Here a weight is how many rows lead to a SEAT, whatever their chances. */
        int waysOf(Net net, Night night, int n) {
            startWith(night.start);
            for (int step = 1; step <= n; step++) {
                int states = now.size;
                for (int i = 0; i < states; i++) {
                    int from = now.stateAt(i);
                    long weight = now.weightOf(from);
                    for (int to = 0; to < net.seats; to++) {
                        if (net.tenthsOf(from, to) > 0 && night.fits(step, to)) {
                            next.add(to, weight);
                        }
                    }
                }
                stepOn();
            }
            long ways = 0;
            for (int seat = 0; seat < net.seats; seat++) {
                ways += now.weightOf(seat);
            }
            return (int) ways;
        }
    }

    /**
     * How many HANDS it takes in the mean: equations in whole numbers (ten times the mean of a
     * SEAT, less its tenths of the others' means, is ten), solved without fractions, by Bareiss.
     */
    private static final class Means {
        static final int WIDTH = MOST_SEATS + 1;
        final long[] cells = new long[MOST_SEATS * WIDTH];
        final int[] order = new int[MOST_SEATS];
        int size;
        long above;
        long below;

        /** Whether there is a mean; above and below are it then, not yet in least terms. */
        boolean solve(Net net, int from, int to) {
            above = 0;
            below = 1;
            if (from == to) {
                return true;
            }
            int met = seatsMet(net, from, to);
            if ((met & ~seatsLeadingTo(net, to)) != 0) {
                return false;
            }
            putInOrder(net, met, from, to);
            fill(net);
            return eliminate();
        }

        /** Bits of the SEATS where it may be before it is at the told one, and that one itself. */
        private int seatsMet(Net net, int from, int to) {
            int met = 1 << from;
            for (int time = 0; time < net.seats; time++) {
                for (int seat = 0; seat < net.seats; seat++) {
                    if ((met >> seat & 1) == 1 && seat != to) {
                        met |= nextBits(net, seat);
                    }
                }
            }
            return met;
        }

        private int seatsLeadingTo(Net net, int to) {
            int leading = 1 << to;
            for (int time = 0; time < net.seats; time++) {
                for (int seat = 0; seat < net.seats; seat++) {
                    if ((nextBits(net, seat) & leading) != 0) {
                        leading |= 1 << seat;
                    }
                }
            }
            return leading;
        }

        private int nextBits(Net net, int from) {
            int bits = 0;
            for (int seat = 0; seat < net.seats; seat++) {
                if (net.tenthsOf(from, seat) > 0) {
                    bits |= 1 << seat;
                }
            }
            return bits;
        }

        /** The asked SEAT comes last: its mean then stands alone in the last row. */
        private void putInOrder(Net net, int met, int from, int to) {
            size = 0;
            for (int seat = 0; seat < net.seats; seat++) {
                if ((met >> seat & 1) == 1 && seat != from && seat != to && size < MOST_SEATS - 1) {
                    order[size] = seat;
                    size++;
                }
            }
            order[size] = from;
            size++;
        }

        private void fill(Net net) {
            for (int line = 0; line < size && line < MOST_SEATS; line++) {
                for (int column = 0; column < size && column < MOST_SEATS; column++) {
                    int own = line == column ? TEN : 0;
                    setCell(line, column, own - net.tenthsOf(order[line], order[column]));
                }
                setCell(line, size, TEN);
            }
        }

        /**
         * No two lines need change places: where the told SEAT is surely reached, each square of
         * the equations' first lines has a determinant above 0.
         */
        private boolean eliminate() {
            long divisor = 1;
            for (int pivot = 0; pivot < size - 1; pivot++) {
                for (int line = pivot + 1; line < size; line++) {
                    subtract(pivot, line, divisor);
                }
                divisor = cellAt(pivot, pivot);
            }
            above = cellAt(size - 1, size);
            below = cellAt(size - 1, size - 1);
            return below > 0;
        }

        private void subtract(int pivot, int line, long divisor) {
            if (divisor == 0) {
                return;
            }
            long top = cellAt(pivot, pivot);
            long side = cellAt(line, pivot);
            for (int column = pivot + 1; column <= size; column++) {
                long cell = cellAt(line, column) * top - side * cellAt(pivot, column);
                setCell(line, column, cell / divisor);
            }
        }

        private long cellAt(int line, int column) {
            int cell = line * WIDTH + column;
            return cell >= 0 && cell < cells.length ? cells[cell] : 0;
        }

        private void setCell(int line, int column, long value) {
            int cell = line * WIDTH + column;
            if (cell >= 0 && cell < cells.length) {
                cells[cell] = value;
            }
        }
    }

    /** ROWS of HANDS told as figures. */
    private static final class Rows {
        final long[] best = new long[(MOST_IN_ROW + 1) * MOST_SEATS];

        private static int figureOf(int n, int row, int place) {
            long unit = power(TEN, n - 1 - place);
            return unit < 1 ? 0 : (int) (row / unit % TEN);
        }

        int firstWrong(Net net, int start, int n, int row) {
            int from = start;
            for (int place = 0; place < n; place++) {
                int to = figureOf(n, row, place);
                if (net.tenthsOf(from, to) == 0) {
                    return place;
                }
                from = to;
            }
            return NONE;
        }

        long weightOf(Net net, int start, int n, int row) {
            long weight = 1;
            int from = start;
            for (int place = 0; place < n; place++) {
                int to = figureOf(n, row, place);
                weight *= net.tenthsOf(from, to);
                from = to;
            }
            return weight;
        }

        /** The weights are found from the row's end, so that the first of like rows can be gone from its start. */
        int likeliestOf(Net net, Night night, int n) {
            for (int seat = 0; seat < MOST_SEATS; seat++) {
                setBest(n, seat, 1);
            }
            for (int time = n - 1; time >= 0; time--) {
                for (int seat = 0; seat < net.seats; seat++) {
                    setBest(time, seat, bestFrom(net, night, time, seat));
                }
            }
            if (bestOf(0, night.start) == 0) {
                return NONE;
            }
            int row = 0;
            int from = night.start;
            for (int time = 0; time < n; time++) {
                from = firstBest(net, night, time, from);
                row = row * TEN + from;
            }
            return row;
        }

        private long bestFrom(Net net, Night night, int time, int from) {
            long most = 0;
            for (int to = 0; to < net.seats; to++) {
                most = Math.max(most, weightBy(net, night, time, from, to));
            }
            return most;
        }

        private int firstBest(Net net, Night night, int time, int from) {
            long most = bestOf(time, from);
            for (int to = 0; to < net.seats; to++) {
                if (weightBy(net, night, time, from, to) == most) {
                    return to;
                }
            }
            return 0;
        }

        private long weightBy(Net net, Night night, int time, int from, int to) {
            if (!night.fits(time + 1, to)) {
                return 0;
            }
            return net.tenthsOf(from, to) * bestOf(time + 1, to);
        }

        private long bestOf(int time, int seat) {
            int cell = time * MOST_SEATS + seat;
            return cell >= 0 && cell < best.length ? best[cell] : 0;
        }

        private void setBest(int time, int seat, long weight) {
            int cell = time * MOST_SEATS + seat;
            if (cell >= 0 && cell < best.length) {
                best[cell] = weight;
            }
        }
    }

    /** Evenings that no one hands: by the rule, or drawn by THE SEED. */
    private static final class Evenings {
        final int[] times = new int[MOST_SEATS];

        int handsByRule(Net net, int start) {
            for (int seat = 0; seat < MOST_SEATS; seat++) {
                times[seat] = seat == start ? 1 : 0;
            }
            int place = start;
            int had = 1 << start;
            for (int hands = 1; hands <= MOST_BY_RULE; hands++) {
                place = leastHad(net, place);
                if (!net.has(place)) {
                    return NONE;
                }
                times[place]++;
                had |= 1 << place;
                if (had == net.allBits()) {
                    return hands;
                }
            }
            return NONE;
        }

        private int leastHad(Net net, int from) {
            int least = NONE;
            for (int to = 0; to < net.seats && to < MOST_SEATS; to++) {
                if (net.tenthsOf(from, to) > 0 && (least < 0 || times[to] < times[least])) {
                    least = to;
                }
            }
            return least;
        }

        /** Where the plate stays, nothing is drawn any more and no one else gets it: that is NONE at once. */
        int drawOne(Net net, Night night) {
            int place = night.start;
            int had = 1 << place;
            for (int hands = 1; hands <= MOST_IN_EVENING; hands++) {
                if (net.stays(place)) {
                    return NONE;
                }
                night.seedNow = night.seedNow * SEED_TIMES + SEED_MORE;
                place = drawnSeat(net, place, (int) ((night.seedNow >>> 33) % TEN));
                had |= 1 << place;
                if (had == net.allBits()) {
                    return hands * TEN + place;
                }
            }
            return NONE;
        }

        private int drawnSeat(Net net, int from, int tenth) {
            int left = tenth;
            for (int to = 0; to < net.seats; to++) {
                left -= net.tenthsOf(from, to);
                if (left < 0) {
                    return to;
                }
            }
            return from;
        }
    }
}
