import java.math.BigInteger;
import java.util.ArrayList;
import java.util.HashMap;
import java.util.List;
import java.util.Map;
import java.util.Random;

/**
 * Runs of calls by a fixed seed on the class and on a model that reckons otherwise (backwards, by
 * fractions of any size, by trying all rows), wrong inputs among them. The first wrong answers are told
 * with the calls that led there.
 */
public final class ModelTest {
    private static final int RUNS = 500;
    /** With the writes and counts between them they stay under the 512 that are promised. */
    private static final int CALLS = 160;
    private static int looked = 0;
    private static int wrong = 0;

    public static void main(String[] args) {
        for (int run = 0; run < RUNS && wrong < 5; run++) {
            oneRun(new Random(1000 + run), run);
        }
        everyRingInTheEnd();
        System.out.println(looked + " answers against the model, " + wrong + " wrong");
        if (wrong != 0) {
            System.exit(1);
        }
    }

    private static void oneRun(Random dice, int run) {
        PlateLast x = new PlateLast();
        Model model = new Model();
        StringBuilder told = new StringBuilder();
        int calls = 0;
        while (calls < CALLS) {
            if (calls == 0 || dice.nextInt(40) == 0) {
                String text = anyText(dice);
                told.append("text ").append(text).append('\n');
                due(run, told, "wipe()", x.wipe(), model.wipe());
                for (int i = 0; i < text.length(); i += 8) {
                    String part = text.substring(i, Math.min(i + 8, text.length()));
                    long bytes = dice.nextLong();
                    for (int j = 0; j < part.length(); j++) {
                        bytes = bytes << 8 | part.charAt(j);
                    }
                    model.text.append(part);
                    due(run, told, "write(" + part + ")", x.write(part.length(), bytes), model.text.length());
                }
                due(run, told, "fault()", x.fault(), model.fault());
                due(run, told, "table()", x.table(), model.table());
                calls += 3;
            }
            if (!oneCall(dice, run, x, model, told)) {
                return;
            }
            calls++;
            int what = calls % 8;
            due(run, told, "count(" + what + ")", x.count(what), model.count(what));
        }
    }

    private static boolean due(int run, StringBuilder told, String call, long got, long want) {
        looked++;
        if (got == want) {
            return true;
        }
        wrong++;
        System.out.println("run " + run + ":\n" + told + call + " answered " + got + ", due is " + want);
        return false;
    }

    /** Mostly a SEAT of the table, now and then none. */
    private static int seat(Random dice, Model model) {
        if (dice.nextInt(25) == 0) {
            int[] none = {-1, model.seats, 8, 9, Integer.MIN_VALUE, Integer.MAX_VALUE};
            return none[dice.nextInt(none.length)];
        }
        return dice.nextInt(model.seats);
    }

    private static int within(Random dice, int least, int most) {
        if (dice.nextInt(25) == 0) {
            int[] none = {least - 1, most + 1, Integer.MIN_VALUE, Integer.MAX_VALUE};
            return none[dice.nextInt(none.length)];
        }
        return least + dice.nextInt(most - least + 1);
    }

    private static boolean oneCall(Random dice, int run, PlateLast x, Model model, StringBuilder told) {
        boolean upper = dice.nextBoolean();
        int one = seat(dice, model);
        int other = seat(dice, model);
        int n;
        long got;
        long want;
        String call;
        switch (dice.nextInt(28)) {
            case 0: {
                n = within(dice, 1, 8);
                long v = dice.nextLong();
                call = "write(" + n + ", " + v + ")";
                got = x.write(n, v);
                want = model.write(n, v);
                break;
            }
            case 1:
                call = "chance(" + one + ", " + other + ")";
                got = x.chance(one, other);
                want = model.chance(one, other);
                break;
            case 2:
                call = "begin(" + one + ")";
                got = x.begin(one);
                want = model.begin(one);
                break;
            case 3: case 4: case 5: case 6:
                one = dice.nextInt(4) == 0 ? one : model.anyNext(dice);
                call = "hand(" + one + ")";
                got = x.hand(one);
                want = model.hand(one);
                break;
            case 7:
                call = "back()";
                got = x.back();
                want = model.back();
                break;
            case 8:
                n = within(dice, 0, 12);
                call = "at(" + n + ", " + one + ", " + upper + ")";
                got = x.at(n, one, upper);
                want = model.at(n, one, upper);
                break;
            case 9:
                n = within(dice, 0, 12);
                call = "all(" + n + ", " + upper + ")";
                got = x.all(n, upper);
                want = model.all(n, upper);
                break;
            case 10: case 11:
                n = within(dice, 0, 12);
                call = "last(" + n + ", " + one + ", " + upper + ")";
                got = x.last(n, one, upper);
                want = model.last(n, one, upper);
                break;
            case 12:
                n = within(dice, 0, 12);
                call = "sit(" + n + ")";
                got = x.sit(n);
                want = model.sit(n);
                break;
            case 13:
                call = "end(" + one + ", " + upper + ")";
                got = x.end(one, upper);
                want = model.end(one, upper);
                break;
            case 14:
                call = "mean(" + one + ", " + other + ", " + upper + ")";
                got = x.mean(one, other, upper);
                want = model.mean(one, other, upper);
                break;
            case 15:
                call = "round(" + one + ", " + other + ", " + upper + ")";
                got = x.round(one, other, upper);
                want = model.round(one, other, upper);
                break;
            case 16:
                n = within(dice, 0, 8);
                call = "meet(" + one + ", " + other + ", " + n + ", " + upper + ")";
                got = x.meet(one, other, n, upper);
                want = model.meet(one, other, n, upper);
                break;
            case 17: {
                n = within(dice, 1, 9);
                int k = within(dice, 0, 8);
                int m = within(dice, 0, 8);
                call = "penny(" + n + ", " + k + ", " + m + ", " + upper + ")";
                got = x.penny(n, k, m, upper);
                want = model.penny(n, k, m, upper);
                break;
            }
            case 18: case 19: {
                n = within(dice, 1, 9);
                int row = model.anyRow(dice, n);
                call = "judge and likely(" + n + ", " + row + ", " + upper + ")";
                if (!due(run, told, call, x.judge(n, row), model.judge(n, row))) {
                    return false;
                }
                got = x.likely(n, row, upper);
                want = model.likely(n, row, upper);
                break;
            }
            case 20: {
                int t = within(dice, 1, 9);
                call = "see(" + t + ", " + one + ")";
                got = x.see(t, one);
                want = model.see(t, one);
                break;
            }
            case 21:
                if (dice.nextInt(3) != 0) {
                    return true;
                }
                call = "unsee()";
                got = x.unsee();
                want = model.unsee();
                break;
            case 22:
                n = within(dice, 1, 9);
                if (model.rowsAtMost(n) > 30000) {
                    return true;
                }
                call = "ways and likeliest(" + n + ")";
                if (!due(run, told, call, x.ways(n), model.ways(n))) {
                    return false;
                }
                got = x.likeliest(n);
                want = model.likeliest(n);
                break;
            case 23:
                call = "rule()";
                got = x.rule();
                want = model.rule();
                break;
            case 24: {
                long v = dice.nextLong();
                call = "seed(" + v + ")";
                got = x.seed(v);
                want = model.setSeed(v);
                break;
            }
            case 25:
                call = "evening()";
                got = x.evening();
                want = model.evening();
                break;
            case 26: {
                int m = within(dice, 1, 30);
                call = "uncle(" + m + ", " + one + ")";
                got = x.uncle(m, one);
                want = model.uncle(m, one);
                break;
            }
            default: {
                int slot = within(dice, 0, 1);
                if (upper) {
                    call = "keep(" + slot + ")";
                    got = x.keep(slot);
                    want = model.keep(slot);
                } else {
                    call = "again(" + slot + ")";
                    got = x.again(slot);
                    want = model.again(slot);
                }
                break;
            }
        }
        if (!due(run, told, call, got, want)) {
            return false;
        }
        told.append(call).append(" -> ").append(got).append('\n');
        return true;
    }

    /** A ring, a row, a net or something that is none of them, perhaps by one byte. */
    private static String anyText(Random dice) {
        StringBuilder text = new StringBuilder("T");
        int seats = 2 + dice.nextInt(7);
        text.append(seats);
        int kind = dice.nextInt(5);
        if (kind < 2) {
            text.append(kind == 0 ? 'R' : 'W').append(dice.nextInt(10));
        } else {
            appendNet(dice, text, seats);
        }
        if (dice.nextInt(4) == 0) {
            String signs = "TRWH0123456789:/ h";
            char sign = dice.nextInt(10) == 0 ? (char) dice.nextInt(256) : signs.charAt(dice.nextInt(signs.length()));
            int place = dice.nextInt(text.length() + 1);
            switch (dice.nextInt(3)) {
                case 0:
                    text.insert(place, sign);
                    break;
                case 1:
                    text.setLength(place);
                    break;
                default:
                    if (place < text.length()) {
                        text.setCharAt(place, sign);
                    }
                    break;
            }
        }
        text.setLength(Math.min(text.length(), 98));
        return text.toString();
    }

    private static void appendNet(Random dice, StringBuilder text, int seats) {
        List<String> told = new ArrayList<>();
        for (int from = 0; from < seats; from++) {
            int left = dice.nextInt(8) == 0 ? 0 : 10;
            List<Integer> others = new ArrayList<>();
            for (int to = 0; to < seats; to++) {
                if (to != from) {
                    others.add(to);
                }
            }
            java.util.Collections.shuffle(others, dice);
            int ways = 1 + dice.nextInt(Math.min(others.size(), 4));
            for (int i = 0; i < ways && left > 0; i++) {
                int x = i == ways - 1 ? left : 1 + dice.nextInt(left);
                told.add("H" + from + others.get(i) + (x == 10 ? 0 : x));
                left -= x;
            }
        }
        if (dice.nextBoolean()) {
            java.util.Collections.shuffle(told, dice);
        }
        for (String one : told) {
            text.append(one);
        }
    }

    /** The sum of all, and the chances themselves by going on for very long. */
    private static void everyRingInTheEnd() {
        for (int seats = 3; seats <= 8; seats++) {
            for (int tenths = 1; tenths <= 9; tenths++) {
                PlateLast x = new PlateLast();
                String text = "T" + seats + "R" + tenths;
                for (int i = 0; i < text.length(); i++) {
                    x.write(1, text.charAt(i));
                }
                x.table();
                double[] near = nearEnd(seats, tenths / 10.0);
                for (int seat = 0; seat < seats; seat++) {
                    double told = (double) x.end(seat, true) / x.end(seat, false);
                    if (Math.abs(told - near[seat]) > 1e-9) {
                        wrong++;
                        System.out.println("end(" + seat + ") of " + text + " is " + told + ", due is near " + near[seat]);
                    }
                }
            }
        }
    }

    private static double[] nearEnd(int seats, double on) {
        int full = (1 << seats) - 1;
        double[] last = new double[seats];
        double[][] now = new double[full + 1][seats];
        now[1][0] = 1;
        for (int step = 0; step < 1500; step++) {
            double[][] next = new double[full + 1][seats];
            for (int had = 0; had < full; had++) {
                for (int seat = 0; seat < seats; seat++) {
                    double weight = now[had][seat];
                    if (weight > 0) {
                        pass(next, last, had, (seat + 1) % seats, weight * on);
                        pass(next, last, had, (seat + seats - 1) % seats, weight * (1 - on));
                    }
                }
            }
            now = next;
        }
        return last;
    }

    private static void pass(double[][] next, double[] last, int had, int to, double weight) {
        int then = had | 1 << to;
        if (then == next.length - 1) {
            last[to] += weight;
        } else {
            next[then][to] += weight;
        }
    }

    private static final class Fraction {
        static final Fraction ZERO = new Fraction(BigInteger.ZERO, BigInteger.ONE);
        static final Fraction ONE = of(1, 1);
        final BigInteger above;
        final BigInteger below;

        private Fraction(BigInteger above, BigInteger below) {
            BigInteger shared = above.gcd(below);
            if (below.signum() < 0) {
                shared = shared.negate();
            }
            this.above = above.divide(shared);
            this.below = below.divide(shared);
        }

        static Fraction of(long above, long below) {
            return new Fraction(BigInteger.valueOf(above), BigInteger.valueOf(below));
        }

        Fraction plus(Fraction o) {
            return new Fraction(above.multiply(o.below).add(o.above.multiply(below)), below.multiply(o.below));
        }

        Fraction minus(Fraction o) {
            return new Fraction(above.multiply(o.below).subtract(o.above.multiply(below)), below.multiply(o.below));
        }

        Fraction times(Fraction o) {
            return new Fraction(above.multiply(o.above), below.multiply(o.below));
        }

        Fraction by(Fraction o) {
            return new Fraction(above.multiply(o.below), below.multiply(o.above));
        }

        int compare(Fraction o) {
            return above.multiply(o.below).compareTo(o.above.multiply(below));
        }

        long told(boolean upper) {
            return (upper ? above : below).longValueExact();
        }
    }

    private static final class State {
        int begin;
        List<Integer> hands = new ArrayList<>();
        List<int[]> seen = new ArrayList<>();
        long seed;

        State copy() {
            State other = new State();
            other.begin = begin;
            other.hands = new ArrayList<>(hands);
            other.seen = new ArrayList<>(seen);
            other.seed = seed;
            return other;
        }

        int place() {
            return hands.isEmpty() ? begin : hands.get(hands.size() - 1);
        }

        int had() {
            int bits = 1 << begin;
            for (int seat : hands) {
                bits |= 1 << seat;
            }
            return bits;
        }
    }

    private static final class Model {
        final StringBuilder text = new StringBuilder();
        int seats = 2;
        int kind = 0;
        int x = 5;
        int[][] tenths = {{0, 10}, {10, 0}};
        State state = new State();
        State[] kept = new State[2];

        int write(int n, long v) {
            if (n < 1 || n > 8) {
                return -2;
            }
            if (text.length() + n > 98) {
                return -4;
            }
            for (int i = n - 1; i >= 0; i--) {
                text.append((char) (v >> 8 * i & 255));
            }
            return text.length();
        }

        int wipe() {
            int length = text.length();
            text.setLength(0);
            return length;
        }

        /** Prefix by prefix: the first that nothing can end; each is ended by trying figures behind it. */
        int fault() {
            String all = text.toString();
            for (int length = 1; length <= all.length(); length++) {
                if (!canBe(all.substring(0, length))) {
                    return length - 1;
                }
            }
            return isTable(all) ? -9 : all.length();
        }

        static boolean isTable(String text) {
            if (text.matches("T[2-8]([RW][0-9])?")) {
                return true;
            }
            int[][] net = netOf(text);
            if (net == null) {
                return false;
            }
            for (int[] row : net) {
                int sum = 0;
                for (int tenths : row) {
                    sum += tenths;
                }
                if (sum != 0 && sum != 10) {
                    return false;
                }
            }
            return true;
        }

        static boolean canBe(String text) {
            if (text.matches("T|T[2-8]|T[2-8][RW][0-9]?")) {
                return true;
            }
            if (!text.matches("T[2-8](H...)*H?.?.?.?")) {
                return false;
            }
            if ((text.length() - 2) % 4 != 0) {
                for (char sign = '0'; sign <= '9'; sign++) {
                    if (canBe(text + sign)) {
                        return true;
                    }
                }
                return false;
            }
            int[][] net = netOf(text);
            if (net == null) {
                return false;
            }
            for (int seat = 0; seat < net.length; seat++) {
                if (!canGetWhole(net[seat], seat)) {
                    return false;
                }
            }
            return true;
        }

        private static boolean canGetWhole(int[] row, int seat) {
            int sum = 0;
            boolean open = false;
            for (int to = 0; to < row.length; to++) {
                sum += row[to];
                open |= to != seat && row[to] == 0;
            }
            return sum == 0 || sum == 10 || sum < 10 && open;
        }

        /** The tenths that a text of whole H tells, or null: none such, or one of them twice or over ten. */
        static int[][] netOf(String text) {
            if (!text.matches("T[2-8](H[0-7][0-7][0-9])*")) {
                return null;
            }
            int seats = text.charAt(1) - '0';
            int[][] net = new int[seats][seats];
            for (int i = 2; i < text.length(); i += 4) {
                int from = text.charAt(i + 1) - '0';
                int to = text.charAt(i + 2) - '0';
                int x = text.charAt(i + 3) - '0';
                if (from >= seats || to >= seats || from == to || net[from][to] != 0) {
                    return null;
                }
                net[from][to] = x == 0 ? 10 : x;
                int sum = 0;
                for (int tenths : net[from]) {
                    sum += tenths;
                }
                if (sum > 10) {
                    return null;
                }
            }
            return net;
        }

        int table() {
            if (fault() != -9) {
                return -3;
            }
            String all = text.toString();
            seats = all.charAt(1) - '0';
            kind = all.length() == 2 ? 2 : "RWH".indexOf(all.charAt(2));
            tenths = kind == 2 ? netOf(all) : new int[seats][seats];
            x = kind == 2 ? 0 : all.charAt(3) - '0';
            for (int seat = 0; seat < seats; seat++) {
                if (kind == 2) {
                    int sum = 0;
                    for (int to = 0; to < seats; to++) {
                        sum += tenths[seat][to];
                    }
                    if (sum == 0) {
                        tenths[seat][seat] = 10;
                    }
                } else if (seats == 2) {
                    tenths[seat][1 - seat] = 10;
                } else if (kind == 1 && seat == 0) {
                    tenths[0][1] = 10;
                } else if (kind == 1 && seat == seats - 1) {
                    tenths[seat][seat - 1] = 10;
                } else {
                    tenths[seat][(seat + 1) % seats] = x;
                    tenths[seat][(seat + seats - 1) % seats] = 10 - x;
                }
            }
            long seed = state.seed;
            state = new State();
            state.seed = seed;
            kept = new State[2];
            return seats;
        }

        boolean none(int seat) {
            return seat < 0 || seat >= seats;
        }

        int chance(int from, int to) {
            return none(from) || none(to) ? -1 : tenths[from][to];
        }

        int begin(int seat) {
            if (none(seat)) {
                return -1;
            }
            int before = state.begin;
            state.begin = seat;
            state.hands.clear();
            return before;
        }

        int anyNext(Random dice) {
            int[] row = tenths[state.place()];
            int to = dice.nextInt(seats);
            while (row[to] == 0) {
                to = (to + 1) % seats;
            }
            return to;
        }

        int hand(int seat) {
            if (none(seat)) {
                return -1;
            }
            if (tenths[state.place()][seat] == 0) {
                return -3;
            }
            if (state.hands.size() == 30) {
                return -4;
            }
            state.hands.add(seat);
            return state.had();
        }

        int back() {
            if (state.hands.isEmpty()) {
                return -3;
            }
            state.hands.remove(state.hands.size() - 1);
            return state.hands.size();
        }

        long at(int n, int seat, boolean upper) {
            if (none(seat)) {
                return -1;
            }
            if (n < 0 || n > 12) {
                return -2;
            }
            return atFrom(state.place(), n, seat, new HashMap<>()).told(upper);
        }

        private Fraction atFrom(int place, int n, int seat, Map<Integer, Fraction> known) {
            if (n == 0) {
                return place == seat ? Fraction.ONE : Fraction.ZERO;
            }
            Fraction had = known.get(n * 8 + place);
            if (had != null) {
                return had;
            }
            Fraction sum = Fraction.ZERO;
            for (int to = 0; to < seats; to++) {
                if (tenths[place][to] > 0) {
                    sum = sum.plus(Fraction.of(tenths[place][to], 10).times(atFrom(to, n - 1, seat, known)));
                }
            }
            known.put(n * 8 + place, sum);
            return sum;
        }

        long all(int n, boolean upper) {
            if (n < 0 || n > 12) {
                return -2;
            }
            if (state.had() == (1 << seats) - 1) {
                return 1;
            }
            return allFrom(state.place(), state.had(), n, new HashMap<>()).told(upper);
        }

        private Fraction allFrom(int place, int had, int n, Map<Integer, Fraction> known) {
            if (had == (1 << seats) - 1) {
                return Fraction.ONE;
            }
            if (n == 0) {
                return Fraction.ZERO;
            }
            int key = (had * 16 + n) * 8 + place;
            if (known.containsKey(key)) {
                return known.get(key);
            }
            Fraction sum = Fraction.ZERO;
            for (int to = 0; to < seats; to++) {
                if (tenths[place][to] > 0) {
                    sum = sum.plus(Fraction.of(tenths[place][to], 10).times(allFrom(to, had | 1 << to, n - 1, known)));
                }
            }
            known.put(key, sum);
            return sum;
        }

        long last(int n, int seat, boolean upper) {
            if (none(seat)) {
                return -1;
            }
            if (n < 0 || n > 12) {
                return -2;
            }
            return lastFrom(state.place(), state.had(), n, seat, new HashMap<>()).told(upper);
        }

        private Fraction lastFrom(int place, int had, int n, int seat, Map<Integer, Fraction> known) {
            if (n == 0 || (had >> seat & 1) == 1) {
                return Fraction.ZERO;
            }
            int key = (had * 16 + n) * 8 + place;
            if (known.containsKey(key)) {
                return known.get(key);
            }
            Fraction sum = Fraction.ZERO;
            for (int to = 0; to < seats; to++) {
                if (tenths[place][to] > 0) {
                    boolean ends = to == seat && (had | 1 << to) == (1 << seats) - 1;
                    Fraction then = ends ? Fraction.ONE : lastFrom(to, had | 1 << to, n - 1, seat, known);
                    sum = sum.plus(Fraction.of(tenths[place][to], 10).times(then));
                }
            }
            known.put(key, sum);
            return sum;
        }

        int sit(int n) {
            if (n < 0 || n > 12) {
                return -2;
            }
            int best = -1;
            Fraction least = null;
            for (int seat = seats - 1; seat >= 0; seat--) {
                if (seat != state.begin) {
                    Fraction chance = lastFrom(state.begin, 1 << state.begin, n, seat, new HashMap<>());
                    if (least == null || chance.compare(least) <= 0) {
                        best = seat;
                        least = chance;
                    }
                }
            }
            return best;
        }

        /** By the gambler's two ruins, each told by a row of equations' known answer as fractions. */
        long end(int seat, boolean upper) {
            if (none(seat)) {
                return -1;
            }
            if (kind != 0 || x == 0 || seats < 3) {
                return -3;
            }
            int steps = Math.floorMod(seat - state.begin, seats);
            if (steps == 0) {
                return Fraction.ZERO.told(upper);
            }
            Fraction upFirst = upBeforeDown(steps - 1, seats - steps - 1);
            Fraction thenDown = Fraction.ONE.minus(upBeforeDown(1, seats - 2));
            Fraction thenUp = upBeforeDown(seats - 2, 1);
            return upFirst.times(thenDown).plus(Fraction.ONE.minus(upFirst).times(thenUp)).told(upper);
        }

        private Fraction upBeforeDown(int up, int down) {
            if (up == 0) {
                return Fraction.ONE;
            }
            Fraction above = Fraction.ZERO;
            Fraction below = Fraction.ZERO;
            Fraction power = Fraction.ONE;
            for (int i = 0; i < up + down; i++) {
                above = i < down ? above.plus(power) : above;
                below = below.plus(power);
                power = power.times(Fraction.of(10 - x, x));
            }
            return above.by(below);
        }

        long mean(int from, int to, boolean upper) {
            if (none(from) || none(to)) {
                return -1;
            }
            Fraction mean = meanOf(from, to);
            return mean == null ? -9 : mean.told(upper);
        }

        long round(int from, int to, boolean upper) {
            if (none(from) || none(to)) {
                return -1;
            }
            Fraction there = meanOf(from, to);
            Fraction again = meanOf(to, from);
            return there == null || again == null ? -9 : there.plus(again).told(upper);
        }

        /** Whether one leads to another by any row of hands that does not go through the barred one. */
        private boolean leads(int from, int to, int barred) {
            boolean[][] way = new boolean[seats][seats];
            for (int i = 0; i < seats; i++) {
                for (int j = 0; j < seats; j++) {
                    way[i][j] = i == j || i != barred && tenths[i][j] > 0;
                }
            }
            for (int k = 0; k < seats; k++) {
                for (int i = 0; i < seats; i++) {
                    for (int j = 0; j < seats; j++) {
                        way[i][j] |= way[i][k] && way[k][j];
                    }
                }
            }
            return way[from][to];
        }

        private Fraction meanOf(int from, int to) {
            if (from == to) {
                return Fraction.ZERO;
            }
            List<Integer> names = new ArrayList<>();
            for (int seat = 0; seat < seats; seat++) {
                if (seat != to && leads(from, seat, to)) {
                    if (!leads(seat, to, to)) {
                        return null;
                    }
                    names.add(seat);
                }
            }
            int size = names.size();
            Fraction[][] lines = new Fraction[size][size + 1];
            for (int i = 0; i < size; i++) {
                for (int j = 0; j < size; j++) {
                    Fraction own = i == j ? Fraction.ONE : Fraction.ZERO;
                    lines[i][j] = own.minus(Fraction.of(tenths[names.get(i)][names.get(j)], 10));
                }
                lines[i][size] = Fraction.ONE;
            }
            return solved(lines)[names.indexOf(from)];
        }

        private static Fraction[] solved(Fraction[][] lines) {
            int size = lines.length;
            for (int column = 0; column < size; column++) {
                int pivot = column;
                while (lines[pivot][column].above.signum() == 0) {
                    pivot++;
                }
                Fraction[] held = lines[pivot];
                lines[pivot] = lines[column];
                lines[column] = held;
                for (int line = 0; line < size; line++) {
                    if (line != column) {
                        Fraction times = lines[line][column].by(lines[column][column]);
                        for (int j = column; j <= size; j++) {
                            lines[line][j] = lines[line][j].minus(times.times(lines[column][j]));
                        }
                    }
                }
            }
            Fraction[] answers = new Fraction[size];
            for (int i = 0; i < size; i++) {
                answers[i] = lines[i][size].by(lines[i][i]);
            }
            return answers;
        }

        long meet(int one, int other, int n, boolean upper) {
            if (none(one) || none(other)) {
                return -1;
            }
            if (n < 0 || n > 8) {
                return -2;
            }
            return meetFrom(one, other, n, new HashMap<>()).told(upper);
        }

        private Fraction meetFrom(int one, int other, int n, Map<Integer, Fraction> known) {
            if (one == other) {
                return Fraction.ONE;
            }
            if (n == 0) {
                return Fraction.ZERO;
            }
            int key = (n * 8 + one) * 8 + other;
            if (known.containsKey(key)) {
                return known.get(key);
            }
            Fraction sum = Fraction.ZERO;
            for (int i = 0; i < seats; i++) {
                for (int j = 0; j < seats; j++) {
                    int both = tenths[one][i] * tenths[other][j];
                    if (both > 0) {
                        sum = sum.plus(Fraction.of(both, 100).times(meetFrom(i, j, n - 1, known)));
                    }
                }
            }
            known.put(key, sum);
            return sum;
        }

        long penny(int bent, int k, int m, boolean upper) {
            if (bent < 1 || bent > 9 || k < 0 || k > 8 || m < 0 || m > 8) {
                return -2;
            }
            Fraction sum = Fraction.ZERO;
            for (int y = 1; y <= 9; y++) {
                sum = sum.plus(falls(y, k, m));
            }
            return falls(bent, k, m).by(sum).told(upper);
        }

        private static Fraction falls(int y, int k, int m) {
            Fraction product = Fraction.of(1, 9);
            for (int i = 0; i < k; i++) {
                product = product.times(Fraction.of(y, 10));
            }
            for (int i = 0; i < m; i++) {
                product = product.times(Fraction.of(10 - y, 10));
            }
            return product;
        }

        int anyRow(Random dice, int n) {
            if (n < 1 || n > 9) {
                return dice.nextInt(100);
            }
            int place = state.begin;
            long row = 0;
            for (int i = 0; i < n; i++) {
                int to = dice.nextInt(seats);
                while (tenths[place][to] == 0) {
                    to = (to + 1) % seats;
                }
                if (dice.nextInt(20) == 0) {
                    to = dice.nextInt(10);
                }
                row = row * 10 + to;
                place = to < seats ? to : 0;
            }
            if (dice.nextInt(20) == 0) {
                row = dice.nextBoolean() ? -row : row * 10 + 10;
            }
            return (int) Math.min(row, Integer.MAX_VALUE);
        }

        int judge(int n, int row) {
            if (n < 1 || n > 9 || row < 0 || Integer.toString(row).length() > n) {
                return -2;
            }
            String figures = "0".repeat(n - Integer.toString(row).length()) + row;
            int place = state.begin;
            for (int i = 0; i < n; i++) {
                int to = figures.charAt(i) - '0';
                if (to >= seats || tenths[place][to] == 0) {
                    return i;
                }
                place = to;
            }
            return -9;
        }

        long likely(int n, int row, boolean upper) {
            int judged = judge(n, row);
            if (judged == -2) {
                return -2;
            }
            if (judged != -9) {
                return Fraction.ZERO.told(upper);
            }
            String figures = "0".repeat(n - Integer.toString(row).length()) + row;
            int place = state.begin;
            Fraction product = Fraction.ONE;
            for (int i = 0; i < n; i++) {
                int to = figures.charAt(i) - '0';
                product = product.times(Fraction.of(tenths[place][to], 10));
                place = to;
            }
            return product.told(upper);
        }

        int see(int t, int seat) {
            if (none(seat)) {
                return -1;
            }
            if (t < 1 || t > 9) {
                return -2;
            }
            if (state.seen.size() == 8) {
                return -4;
            }
            state.seen.add(new int[] {t, seat});
            return state.seen.size();
        }

        int unsee() {
            int before = state.seen.size();
            state.seen.clear();
            return before;
        }

        double rowsAtMost(int n) {
            int most = 1;
            for (int[] row : tenths) {
                int ways = 0;
                for (int x : row) {
                    ways += x > 0 ? 1 : 0;
                }
                most = Math.max(most, ways);
            }
            return n < 1 || n > 9 ? 0 : Math.pow(most, n);
        }

        /** All rows, one behind the other, in their order: how many, the best and its row. */
        private long[] tryAll(int[] row, int done, long weight, long[] best) {
            if (done == row.length) {
                for (int[] sight : state.seen) {
                    if (sight[0] <= row.length && row[sight[0] - 1] != sight[1]) {
                        return best;
                    }
                }
                best[0]++;
                if (weight > best[1]) {
                    best[1] = weight;
                    best[2] = 0;
                    for (int seat : row) {
                        best[2] = best[2] * 10 + seat;
                    }
                }
                return best;
            }
            int place = done == 0 ? state.begin : row[done - 1];
            for (int to = 0; to < seats; to++) {
                if (tenths[place][to] > 0) {
                    row[done] = to;
                    tryAll(row, done + 1, weight * tenths[place][to], best);
                }
            }
            return best;
        }

        int ways(int n) {
            return n < 1 || n > 9 ? -2 : (int) tryAll(new int[n], 0, 1, new long[] {0, 0, -9})[0];
        }

        int likeliest(int n) {
            return n < 1 || n > 9 ? -2 : (int) tryAll(new int[n], 0, 1, new long[] {0, 0, -9})[2];
        }

        int rule() {
            List<Integer> row = new ArrayList<>();
            row.add(state.begin);
            while (row.size() <= 100) {
                if (new java.util.HashSet<>(row).size() == seats) {
                    return row.size() - 1;
                }
                int place = row.get(row.size() - 1);
                int next = -1;
                int fewest = 1000;
                for (int to = seats - 1; to >= 0; to--) {
                    int had = java.util.Collections.frequency(row, to);
                    if (tenths[place][to] > 0 && had <= fewest) {
                        next = to;
                        fewest = had;
                    }
                }
                row.add(next);
            }
            return -9;
        }

        long setSeed(long v) {
            long before = state.seed;
            state.seed = v;
            return before;
        }

        int evening() {
            BigInteger word = BigInteger.ONE.shiftLeft(64);
            int had = 1 << state.begin;
            int place = state.begin;
            for (int hands = 1; hands <= 200; hands++) {
                if (tenths[place][place] == 0) {
                    BigInteger seed = BigInteger.valueOf(state.seed).multiply(new BigInteger("6364136223846793005"))
                        .add(new BigInteger("1442695040888963407")).mod(word);
                    state.seed = seed.longValue();
                    int tenth = seed.shiftRight(33).mod(BigInteger.TEN).intValue();
                    List<Integer> ten = new ArrayList<>();
                    for (int to = 0; to < seats; to++) {
                        for (int i = 0; i < tenths[place][to]; i++) {
                            ten.add(to);
                        }
                    }
                    place = ten.get(tenth);
                }
                had |= 1 << place;
                if (had == (1 << seats) - 1) {
                    return 10 * hands + place;
                }
            }
            return -9;
        }

        int uncle(int m, int seat) {
            if (none(seat)) {
                return -1;
            }
            if (m < 1 || m > 30) {
                return -2;
            }
            int times = 0;
            for (int i = 0; i < m; i++) {
                int told = evening();
                times += told >= 0 && told % 10 == seat ? 1 : 0;
            }
            return times;
        }

        int keep(int slot) {
            if (slot < 0 || slot > 1) {
                return -1;
            }
            kept[slot] = state.copy();
            return state.hands.size();
        }

        int again(int slot) {
            if (slot < 0 || slot > 1) {
                return -1;
            }
            if (kept[slot] == null) {
                return -3;
            }
            state = kept[slot].copy();
            return state.hands.size();
        }

        int count(int what) {
            int[] counts = {text.length(), seats, state.begin, state.place(), state.had(), state.hands.size(),
                state.seen.size(), kind};
            return what < 0 || what > 7 ? -2 : counts[what];
        }
    }
}
