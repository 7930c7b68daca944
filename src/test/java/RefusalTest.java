import java.util.ArrayList;
import java.util.List;

/**
 * REFUSALS: which numbers are refused and which are just not, in several states; which refusal comes
 * first of several; that what is refused changes nothing, and that what only tells changes nothing either.
 */
public final class RefusalTest {
    private static final int UNKNOWN = -1;
    private static final int OUTSIDE = -2;
    private static final int STATE = -3;
    private static final int FULL = -4;
    private static final int LEAST = Integer.MIN_VALUE;
    private static final int MOST = Integer.MAX_VALUE;

    private static final int NEW = 0;
    private static final int RING_NIGHT = 1;
    private static final int FULL_NIGHT = 2;
    private static final int STAY_NIGHT = 3;
    private static final int ROW_NIGHT = 4;
    private static final int NET_NIGHT = 5;
    private static final int[] STATES = {NEW, RING_NIGHT, FULL_NIGHT, STAY_NIGHT, ROW_NIGHT, NET_NIGHT};
    private static final String[] NAMES = {"new", "ring", "full", "stay", "row", "net"};

    private static int looked = 0;
    private static int wrong = 0;
    private static String sentence = "";

    private interface Call {
        long on(PlateLast x);
    }

    private interface Numbered {
        long on(PlateLast x, int number);
    }

    private static void due(String call, Object got, Object want) {
        looked++;
        if (!got.equals(want)) {
            wrong++;
            System.out.println(sentence + ": " + call + " answered " + got + ", due is " + want);
        }
    }

    public static void main(String[] args) {
        writes();
        tablesAndText();
        seatsOfTheTable();
        hands();
        backs();
        seatsOfChances();
        handsAhead();
        ends();
        pennies();
        rows();
        sights();
        numbersOfRows();
        uncles();
        slots();
        counts();
        whatOnlyTells();
        System.out.println(looked + " answers looked at, " + wrong + " wrong");
        if (wrong != 0) {
            System.exit(1);
        }
    }

    // ---- states, each made anew as often as it is asked for

    private static PlateLast of(String text) {
        PlateLast x = new PlateLast();
        put(x, text);
        x.table();
        return x;
    }

    private static void put(PlateLast x, String text) {
        x.wipe();
        for (int from = 0; from < text.length(); from += 8) {
            long bytes = 0;
            int to = Math.min(text.length(), from + 8);
            for (int i = from; i < to; i++) {
                bytes = bytes << 8 | text.charAt(i);
            }
            x.write(to - from, bytes);
        }
    }

    private static PlateLast made(int state) {
        switch (state) {
            case RING_NIGHT:
                return ringNight();
            case FULL_NIGHT:
                return fullNight();
            case STAY_NIGHT:
                return stayNight();
            case ROW_NIGHT:
                return rowNight();
            case NET_NIGHT:
                return netNight();
            default:
                return new PlateLast();
        }
    }

    /** Some of everything, one slot kept, THE TEXT with a fault in it. */
    private static PlateLast ringNight() {
        PlateLast x = of("T4R7");
        x.begin(2);
        x.hand(3);
        x.see(2, 0);
        x.seed(-17);
        x.keep(0);
        x.hand(0);
        x.hand(3);
        x.see(1, 3);
        x.seed(18);
        put(x, "T4R7R");
        return x;
    }

    /** THE TEXT, HANDS and what is SEEN are as many as there may be, here and in both slots. */
    private static PlateLast fullNight() {
        PlateLast x = new PlateLast();
        put(x, fullText());
        for (int i = 1; i <= 30; i++) {
            x.hand(i % 2);
        }
        for (int i = 1; i <= 8; i++) {
            x.see(i, i % 2);
        }
        x.seed(Long.MIN_VALUE);
        x.keep(0);
        x.keep(1);
        return x;
    }

    /** 24 H are 98 bytes with T8. */
    private static String fullText() {
        StringBuilder text = new StringBuilder("T8");
        for (int from = 0; from < 8; from++) {
            text.append('H').append(from).append((from + 1) % 8).append(4);
            text.append('H').append(from).append((from + 3) % 8).append(3);
            text.append('H').append(from).append((from + 6) % 8).append(3);
        }
        return text.toString();
    }

    /** It has come to where it stays. */
    private static PlateLast stayNight() {
        PlateLast x = of("T3H018H022H100");
        x.hand(1);
        x.hand(0);
        x.hand(2);
        x.hand(2);
        x.see(9, 2);
        x.seed(Long.MAX_VALUE);
        x.keep(1);
        return x;
    }

    /** All have HAD it. */
    private static PlateLast rowNight() {
        PlateLast x = of("T3W0");
        x.begin(2);
        x.hand(1);
        x.hand(0);
        x.see(2, 2);
        x.see(2, 0);
        put(x, "T3W");
        return x;
    }

    /** Eight SEATS, not handed yet, THE TEXT empty. */
    private static PlateLast netNight() {
        PlateLast x = of(fullText());
        x.begin(7);
        x.wipe();
        return x;
    }

    // ---- all that an object tells of itself

    private static List<Long> allOf(PlateLast x) {
        List<Long> told = new ArrayList<>();
        for (int what = 0; what <= 7; what++) {
            told.add((long) x.count(what));
        }
        told.add((long) x.fault());
        addTable(x, told);
        for (int n = 1; n <= 9; n++) {
            told.add((long) x.ways(n));
            told.add((long) x.likeliest(n));
        }
        addNight(x, told);
        for (int slot = 0; slot <= 1; slot++) {
            told.add((long) x.again(slot));
            addNight(x, told);
        }
        told.add((long) x.table());
        addTable(x, told);
        return told;
    }

    private static void addTable(PlateLast x, List<Long> told) {
        told.add((long) x.count(7));
        int seats = x.count(1);
        for (int from = 0; from < seats; from++) {
            for (int to = 0; to < seats; to++) {
                told.add((long) x.chance(from, to));
            }
        }
        told.add(x.end(0, false));
        told.add(x.end(1, true));
    }

    /** It is taken back HAND by HAND, and so is no more what it was. */
    private static void addNight(PlateLast x, List<Long> told) {
        told.add((long) x.count(2));
        told.add((long) x.count(6));
        told.add((long) x.ways(2));
        told.add((long) x.likeliest(9));
        told.add(x.all(3, true));
        told.add(x.all(3, false));
        told.add(x.seed(3));
        int left = x.count(5);
        told.add((long) left);
        while (left >= 0) {
            told.add((long) x.count(3));
            told.add((long) x.count(4));
            left = x.back();
            told.add((long) left);
        }
    }

    // ---- the forms in which refusals are looked at

    private static void refused(String call, int state, Call asked, int want) {
        PlateLast x = made(state);
        String told = call + " of " + NAMES[state];
        due(told, asked.on(x), (long) want);
        due("what is as it was behind " + told, allOf(x), allOf(made(state)));
    }

    private static void refusedEverywhere(String call, Call asked, int want) {
        for (int state : STATES) {
            refused(call, state, asked, want);
        }
    }

    private static void outside(String call, Numbered asked, int... numbers) {
        for (int number : numbers) {
            refusedEverywhere(call + " by " + number, x -> asked.on(x, number), OUTSIDE);
        }
    }

    private static void taken(String call, Numbered asked, int... numbers) {
        for (int state : STATES) {
            for (int number : numbers) {
                long got = asked.on(made(state), number);
                due(call + " by " + number + " of " + NAMES[state] + ", taken", got >= 0 || got == -9, true);
            }
        }
    }

    private static void unknownSeats(String call, Numbered asked) {
        for (int state : STATES) {
            int seats = made(state).count(1);
            int[] none = {-1, -2, -8, seats, seats + 1, 8, 9, 31, 32, 33, 64, 256, LEAST, LEAST + 1, MOST};
            for (int seat : none) {
                refused(call + " by " + seat, state, x -> asked.on(x, seat), UNKNOWN);
            }
        }
    }

    private static void knownSeats(String call, Numbered asked) {
        for (int state : STATES) {
            int seats = made(state).count(1);
            for (int seat = 0; seat < seats; seat++) {
                int of = seat;
                due(call + " by " + of + " of " + NAMES[state] + " is known",
                    asked.on(made(state), of) != UNKNOWN, true);
            }
        }
    }

    private static void quiet(String call, Call asked) {
        for (int state : STATES) {
            PlateLast x = made(state);
            long got = asked.on(x);
            due(call + " of " + NAMES[state] + " asked again", asked.on(x), got);
            due("what is as it was behind " + call + " of " + NAMES[state], allOf(x), allOf(made(state)));
        }
    }

    // ---- the table

    private static void writes() {
        sentence = "2: n bytes (1 to 8) .. OUTSIDE";
        outside("write", (x, n) -> x.write(n, 84), 0, 9, -1, 10, 16, 256, 257, LEAST, LEAST + 1, MOST);
        for (int state : STATES) {
            if (state != FULL_NIGHT) {
                PlateLast x = made(state);
                int before = x.count(0);
                due("write(1, ..)", x.write(1, 84), before + 1);
                due("write(8, ..)", x.write(8, 84), before + 9);
            }
        }
        sentence = "2: FULL: it would be longer than 98 (nothing comes)";
        for (int n = 1; n <= 8; n++) {
            int bytes = n;
            refused("write(" + n + ", ..)", FULL_NIGHT, x -> x.write(bytes, 84), FULL);
        }
        sentence = "2: of several the first: OUTSIDE, FULL";
        refused("write(0, ..)", FULL_NIGHT, x -> x.write(0, 84), OUTSIDE);
        refused("write(9, ..)", FULL_NIGHT, x -> x.write(9, 84), OUTSIDE);
        refused("write(most, ..)", FULL_NIGHT, x -> x.write(MOST, 84), OUTSIDE);
    }

    private static void tablesAndText() {
        sentence = "5: STATE: a FAULT";
        refused("table()", NEW, x -> x.table(), STATE);
        refused("table()", RING_NIGHT, x -> x.table(), STATE);
        refused("table()", ROW_NIGHT, x -> x.table(), STATE);
        refused("table()", NET_NIGHT, x -> x.table(), STATE);
        due("table() of a TEXT without", made(FULL_NIGHT).table(), 8);
        due("table() of a TEXT without", made(STAY_NIGHT).table(), 3);
    }

    private static void seatsOfTheTable() {
        sentence = "6: UNKNOWN";
        unknownSeats("chance(.., 0)", (x, seat) -> x.chance(seat, 0));
        unknownSeats("chance(0, ..)", (x, seat) -> x.chance(0, seat));
        unknownSeats("chance(.., ..)", (x, seat) -> x.chance(seat, seat));
        knownSeats("chance(.., 1)", (x, seat) -> x.chance(seat, 1));
        knownSeats("chance(1, ..)", (x, seat) -> x.chance(1, seat));
        sentence = "7: UNKNOWN";
        unknownSeats("begin", (x, seat) -> x.begin(seat));
        knownSeats("begin", (x, seat) -> x.begin(seat));
        sentence = "8: UNKNOWN";
        unknownSeats("hand", (x, seat) -> x.hand(seat));
        knownSeats("hand", (x, seat) -> x.hand(seat));
    }

    private static void hands() {
        sentence = "8: STATE: it can not be";
        refused("hand(0) to itself", NEW, x -> x.hand(0), STATE);
        refused("hand(1) across", RING_NIGHT, x -> x.hand(1), STATE);
        refused("hand(3) to itself", RING_NIGHT, x -> x.hand(3), STATE);
        refused("hand(0) from where it stays", STAY_NIGHT, x -> x.hand(0), STATE);
        refused("hand(1) from where it stays", STAY_NIGHT, x -> x.hand(1), STATE);
        refused("hand(0) at the row's end", ROW_NIGHT, x -> x.hand(0), STATE);
        refused("hand(2) round the row's end", ROW_NIGHT, x -> x.hand(2), STATE);
        refused("hand(6) not told", NET_NIGHT, x -> x.hand(6), STATE);
        refused("hand(3) not told", NET_NIGHT, x -> x.hand(3), STATE);
        sentence = "8: FULL: 30";
        refused("hand(1)", FULL_NIGHT, x -> x.hand(1), FULL);
        sentence = "8: of several the first: UNKNOWN, STATE, FULL";
        refused("hand(2)", FULL_NIGHT, x -> x.hand(2), UNKNOWN);
        refused("hand(-1)", FULL_NIGHT, x -> x.hand(-1), UNKNOWN);
        refused("hand(0)", FULL_NIGHT, x -> x.hand(0), STATE);
    }

    private static void backs() {
        sentence = "9: STATE: there is none";
        refused("back()", NEW, x -> x.back(), STATE);
        refused("back()", NET_NIGHT, x -> x.back(), STATE);
    }

    // ---- chances

    private static void seatsOfChances() {
        for (boolean upper : new boolean[] {true, false}) {
            sentence = "10: UNKNOWN, told likewise above and below";
            unknownSeats("at(1, ..)", (x, seat) -> x.at(1, seat, upper));
            knownSeats("at(1, ..)", (x, seat) -> x.at(1, seat, upper));
            sentence = "12: UNKNOWN, told likewise above and below";
            unknownSeats("last(2, ..)", (x, seat) -> x.last(2, seat, upper));
            knownSeats("last(2, ..)", (x, seat) -> x.last(2, seat, upper));
            sentence = "15: UNKNOWN, told likewise above and below";
            unknownSeats("mean(.., 0)", (x, seat) -> x.mean(seat, 0, upper));
            unknownSeats("mean(0, ..)", (x, seat) -> x.mean(0, seat, upper));
            unknownSeats("mean(.., ..)", (x, seat) -> x.mean(seat, seat, upper));
            knownSeats("mean(.., 1)", (x, seat) -> x.mean(seat, 1, upper));
            knownSeats("mean(1, ..)", (x, seat) -> x.mean(1, seat, upper));
            sentence = "16: UNKNOWN, told likewise above and below";
            unknownSeats("round(.., 0)", (x, seat) -> x.round(seat, 0, upper));
            unknownSeats("round(0, ..)", (x, seat) -> x.round(0, seat, upper));
            unknownSeats("round(.., ..)", (x, seat) -> x.round(seat, seat, upper));
            knownSeats("round(.., 1)", (x, seat) -> x.round(seat, 1, upper));
            knownSeats("round(1, ..)", (x, seat) -> x.round(1, seat, upper));
            sentence = "17: UNKNOWN, told likewise above and below";
            unknownSeats("meet(.., 0, 1)", (x, seat) -> x.meet(seat, 0, 1, upper));
            unknownSeats("meet(0, .., 1)", (x, seat) -> x.meet(0, seat, 1, upper));
            unknownSeats("meet(.., .., 1)", (x, seat) -> x.meet(seat, seat, 1, upper));
            knownSeats("meet(.., 1, 1)", (x, seat) -> x.meet(seat, 1, 1, upper));
            knownSeats("meet(1, .., 1)", (x, seat) -> x.meet(1, seat, 1, upper));
        }
    }

    private static void handsAhead() {
        int[] noHands = {-1, 13, 14, LEAST, LEAST + 1, MOST};
        for (boolean upper : new boolean[] {true, false}) {
            sentence = "10: OUTSIDE: n (0 to 12), told likewise above and below";
            outside("at(.., 0)", (x, n) -> x.at(n, 0, upper), noHands);
            taken("at(.., 0)", (x, n) -> x.at(n, 0, upper), 0, 1, 11, 12);
            sentence = "10: of several the first: UNKNOWN, OUTSIDE";
            unknownSeats("at(13, ..)", (x, seat) -> x.at(13, seat, upper));
            unknownSeats("at(-1, ..)", (x, seat) -> x.at(-1, seat, upper));
            sentence = "11: OUTSIDE: n (0 to 12), told likewise above and below";
            outside("all(..)", (x, n) -> x.all(n, upper), noHands);
            taken("all(..)", (x, n) -> x.all(n, upper), 0, 1, 11, 12);
            sentence = "12: OUTSIDE: n (0 to 12), told likewise above and below";
            outside("last(.., 1)", (x, n) -> x.last(n, 1, upper), noHands);
            taken("last(.., 1)", (x, n) -> x.last(n, 1, upper), 0, 1, 11, 12);
            sentence = "12: of several the first: UNKNOWN, OUTSIDE";
            unknownSeats("last(13, ..)", (x, seat) -> x.last(13, seat, upper));
            unknownSeats("last(-1, ..)", (x, seat) -> x.last(-1, seat, upper));
            sentence = "17: OUTSIDE: n (0 to 8), told likewise above and below";
            outside("meet(0, 1, ..)", (x, n) -> x.meet(0, 1, n, upper), -1, 9, 12, LEAST, LEAST + 1, MOST);
            outside("meet(1, 1, ..)", (x, n) -> x.meet(1, 1, n, upper), -1, 9, LEAST, MOST);
            taken("meet(0, 1, ..)", (x, n) -> x.meet(0, 1, n, upper), 0, 1, 7, 8);
            sentence = "17: of several the first: UNKNOWN, OUTSIDE";
            unknownSeats("meet(0, .., 9)", (x, seat) -> x.meet(0, seat, 9, upper));
            unknownSeats("meet(.., 0, -1)", (x, seat) -> x.meet(seat, 0, -1, upper));
        }
        sentence = "13: OUTSIDE: n (0 to 12)";
        outside("sit(..)", (x, n) -> x.sit(n), noHands);
        taken("sit(..)", (x, n) -> x.sit(n), 0, 1, 11, 12);
    }

    private static void ends() {
        for (boolean upper : new boolean[] {true, false}) {
            sentence = "14: UNKNOWN; STATE, of several the first, told likewise above and below";
            unknownSeats("end(..)", (x, seat) -> x.end(seat, upper));
            knownSeats("end(..)", (x, seat) -> x.end(seat, upper));
            sentence = "14: STATE: it is no such RING";
            for (int state : STATES) {
                if (state != RING_NIGHT) {
                    refused("end(0)", state, x -> x.end(0, upper), STATE);
                    refused("end(1)", state, x -> x.end(1, upper), STATE);
                }
            }
            due("end(1) on a RING", made(RING_NIGHT).end(1, upper) > 0, true);
        }
    }

    // ---- pennies, rows

    private static void pennies() {
        for (boolean upper : new boolean[] {true, false}) {
            sentence = "18: OUTSIDE: x (1 to 9), told likewise above and below";
            outside("penny(.., 1, 1)", (x, tenths) -> x.penny(tenths, 1, 1, upper), 0, 10, -1, LEAST, MOST);
            taken("penny(.., 8, 8)", (x, tenths) -> x.penny(tenths, 8, 8, upper), 1, 2, 8, 9);
            sentence = "18: OUTSIDE: k (0 to 8), told likewise above and below";
            outside("penny(5, .., 1)", (x, k) -> x.penny(5, k, 1, upper), -1, 9, LEAST, MOST);
            taken("penny(5, .., 1)", (x, k) -> x.penny(5, k, 1, upper), 0, 1, 7, 8);
            sentence = "18: OUTSIDE: m (0 to 8), told likewise above and below";
            outside("penny(5, 1, ..)", (x, m) -> x.penny(5, 1, m, upper), -1, 9, LEAST, MOST);
            taken("penny(5, 1, ..)", (x, m) -> x.penny(5, 1, m, upper), 0, 1, 7, 8);
        }
    }

    private static void rows() {
        int[] noLengths = {0, 10, -1, 11, LEAST, LEAST + 1, MOST};
        int[] noDigits = {-1, 10, 11, 99, 100, LEAST, MOST};
        int[] noRows = {-1, 1000000000, 1000000001, LEAST, MOST};
        sentence = "19: OUTSIDE: n (1 to 9)";
        outside("judge(.., 0)", (x, n) -> x.judge(n, 0), noLengths);
        taken("judge(.., 0)", (x, n) -> x.judge(n, 0), 1, 2, 8, 9);
        sentence = "19: OUTSIDE: row (0 or more, n figures at most)";
        outside("judge(1, ..)", (x, row) -> x.judge(1, row), noDigits);
        taken("judge(1, ..)", (x, row) -> x.judge(1, row), 0, 1, 8, 9);
        outside("judge(9, ..)", (x, row) -> x.judge(9, row), noRows);
        taken("judge(9, ..)", (x, row) -> x.judge(9, row), 0, 1, 999999998, 999999999);
        for (boolean upper : new boolean[] {true, false}) {
            sentence = "20: OUTSIDE: n (1 to 9), told likewise above and below";
            outside("likely(.., 0)", (x, n) -> x.likely(n, 0, upper), noLengths);
            taken("likely(.., 0)", (x, n) -> x.likely(n, 0, upper), 1, 2, 8, 9);
            sentence = "20: OUTSIDE: row (0 or more, n figures at most), told likewise above and below";
            outside("likely(1, ..)", (x, row) -> x.likely(1, row, upper), noDigits);
            taken("likely(1, ..)", (x, row) -> x.likely(1, row, upper), 0, 1, 8, 9);
            outside("likely(9, ..)", (x, row) -> x.likely(9, row, upper), noRows);
            taken("likely(9, ..)", (x, row) -> x.likely(9, row, upper), 0, 1, 999999998, 999999999);
        }
        everyLengthOfRows();
    }

    private static void everyLengthOfRows() {
        int tens = 1;
        for (int n = 1; n <= 9; n++) {
            int length = n;
            tens *= 10;
            int first = tens;
            sentence = "19: OUTSIDE: n figures at most";
            refused("judge(" + n + ", " + first + ")", RING_NIGHT, x -> x.judge(length, first), OUTSIDE);
            due("judge(" + n + ", " + (first - 1) + ")", made(RING_NIGHT).judge(length, first - 1), 0);
            sentence = "20: OUTSIDE: n figures at most";
            refused("likely(" + n + ", " + first + ")", RING_NIGHT, x -> x.likely(length, first, true), OUTSIDE);
            due("likely(" + n + ", " + (first - 1) + ")", made(RING_NIGHT).likely(length, first - 1, false), 1L);
        }
    }

    private static void sights() {
        sentence = "21: UNKNOWN";
        unknownSeats("see(1, ..)", (x, seat) -> x.see(1, seat));
        knownSeats("see(1, ..)", (x, seat) -> x.see(1, seat));
        sentence = "21: OUTSIDE: t (1 to 9)";
        outside("see(.., 1)", (x, t) -> x.see(t, 1), 0, 10, -1, 11, LEAST, LEAST + 1, MOST);
        for (int state : STATES) {
            if (state != FULL_NIGHT) {
                PlateLast x = made(state);
                int before = x.count(6);
                due("see(1, 1) of " + NAMES[state], x.see(1, 1), before + 1);
                due("see(9, 1) of " + NAMES[state], x.see(9, 1), before + 2);
            }
        }
        sentence = "21: FULL: 8";
        refused("see(1, 0)", FULL_NIGHT, x -> x.see(1, 0), FULL);
        refused("see(9, 1)", FULL_NIGHT, x -> x.see(9, 1), FULL);
        refused("see(1, 1) once more", FULL_NIGHT, x -> x.see(1, 1), FULL);
        sentence = "21: of several the first: UNKNOWN, OUTSIDE, FULL";
        unknownSeats("see(0, ..)", (x, seat) -> x.see(0, seat));
        unknownSeats("see(10, ..)", (x, seat) -> x.see(10, seat));
        refused("see(0, 0)", FULL_NIGHT, x -> x.see(0, 0), OUTSIDE);
        refused("see(10, 1)", FULL_NIGHT, x -> x.see(10, 1), OUTSIDE);
        refused("see(1, 2)", FULL_NIGHT, x -> x.see(1, 2), UNKNOWN);
    }

    private static void numbersOfRows() {
        sentence = "23: OUTSIDE: n (1 to 9)";
        outside("ways(..)", (x, n) -> x.ways(n), 0, 10, -1, 11, LEAST, LEAST + 1, MOST);
        taken("ways(..)", (x, n) -> x.ways(n), 1, 2, 8, 9);
        sentence = "24: OUTSIDE: n (1 to 9)";
        outside("likeliest(..)", (x, n) -> x.likeliest(n), 0, 10, -1, 11, LEAST, LEAST + 1, MOST);
        taken("likeliest(..)", (x, n) -> x.likeliest(n), 1, 2, 8, 9);
    }

    // ---- rules, evenings, slots

    private static void uncles() {
        sentence = "28: UNKNOWN";
        unknownSeats("uncle(1, ..)", (x, seat) -> x.uncle(1, seat));
        knownSeats("uncle(1, ..)", (x, seat) -> x.uncle(1, seat));
        sentence = "28: OUTSIDE: m (1 to 30)";
        outside("uncle(.., 1)", (x, m) -> x.uncle(m, 1), 0, 31, -1, 32, LEAST, LEAST + 1, MOST);
        taken("uncle(.., 1)", (x, m) -> x.uncle(m, 1), 1, 2, 29, 30);
        sentence = "28: of several the first: UNKNOWN, OUTSIDE";
        unknownSeats("uncle(0, ..)", (x, seat) -> x.uncle(0, seat));
        unknownSeats("uncle(31, ..)", (x, seat) -> x.uncle(31, seat));
    }

    private static void slots() {
        int[] noSlots = {-1, 2, 3, 8, 32, 33, LEAST, LEAST + 1, MOST};
        for (int slot : noSlots) {
            sentence = "29: UNKNOWN";
            refusedEverywhere("keep(" + slot + ")", x -> x.keep(slot), UNKNOWN);
            sentence = "30: UNKNOWN; STATE, of several the first";
            refusedEverywhere("again(" + slot + ")", x -> x.again(slot), UNKNOWN);
        }
        sentence = "29: how many HANDS";
        for (int slot = 0; slot <= 1; slot++) {
            for (int state : STATES) {
                PlateLast x = made(state);
                int hands = x.count(5);
                due("keep(" + slot + ") of " + NAMES[state], x.keep(slot), hands);
            }
        }
        sentence = "30: STATE: none were kept";
        refused("again(0)", NEW, x -> x.again(0), STATE);
        refused("again(1)", NEW, x -> x.again(1), STATE);
        refused("again(1) with the other one kept", RING_NIGHT, x -> x.again(1), STATE);
        refused("again(0) with the other one kept", STAY_NIGHT, x -> x.again(0), STATE);
        due("again(0) that was kept", made(RING_NIGHT).again(0), 1);
        due("again(1) that was kept", made(STAY_NIGHT).again(1), 4);
    }

    private static void counts() {
        sentence = "31: OUTSIDE";
        outside("count(..)", (x, what) -> x.count(what), -1, 8, -2, 9, 256, LEAST, LEAST + 1, MOST);
        taken("count(..)", (x, what) -> x.count(what), 0, 1, 2, 3, 4, 5, 6, 7);
    }

    private static void whatOnlyTells() {
        sentence = "what only tells changes nothing";
        quiet("fault()", x -> x.fault());
        quiet("chance(0, 1)", x -> x.chance(0, 1));
        quiet("at(12, 1)", x -> x.at(12, 1, true));
        quiet("all(12)", x -> x.all(12, false));
        quiet("last(12, 1)", x -> x.last(12, 1, true));
        quiet("sit(12)", x -> x.sit(12));
        quiet("end(1)", x -> x.end(1, true));
        quiet("mean(0, 1)", x -> x.mean(0, 1, true));
        quiet("round(0, 1)", x -> x.round(0, 1, false));
        quiet("meet(0, 1, 8)", x -> x.meet(0, 1, 8, true));
        quiet("penny(9, 8, 8)", x -> x.penny(9, 8, 8, false));
        quiet("judge(9, 101010101)", x -> x.judge(9, 101010101));
        quiet("likely(9, 101010101)", x -> x.likely(9, 101010101, true));
        quiet("ways(9)", x -> x.ways(9));
        quiet("likeliest(9)", x -> x.likeliest(9));
        quiet("rule()", x -> x.rule());
        quiet("count(4)", x -> x.count(4));
    }
}
