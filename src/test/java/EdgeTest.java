import java.math.BigInteger;
import java.util.ArrayList;
import java.util.List;

/**
 * Each sentence of the document that names an edge, with a test of its own that is told by that sentence:
 * the least and the greatest that is taken, the empty and the full one, the ring's end, the seed's
 * wrapping, where the answer is NONE. What is refused is looked at in RefusalTest.
 */
public final class EdgeTest {
    private static final int NONE = -9;
    private static int looked = 0;
    private static int wrong = 0;
    private static String sentence = "";

    private static void due(String call, long got, long want) {
        looked++;
        if (got != want) {
            wrong++;
            System.out.println(sentence + ": " + call + " answered " + got + ", due is " + want);
        }
    }

    private static void dueFraction(String call, long above, long below, long wantAbove, long wantBelow) {
        due(call + " above", above, wantAbove);
        due(call + " below", below, wantBelow);
    }

    private static PlateLast of(String text) {
        PlateLast x = new PlateLast();
        put(x, text);
        due("table() of " + text, x.table(), text.charAt(1) - '0');
        return x;
    }

    private static PlateLast of(String text, int begin) {
        PlateLast x = of(text);
        x.begin(begin);
        return x;
    }

    private static void put(PlateLast x, String text) {
        x.wipe();
        for (int from = 0; from < text.length(); from += 8) {
            long bytes = 0;
            int to = Math.min(text.length(), from + 8);
            for (int i = from; i < to; i++) {
                bytes = bytes << 8 | text.charAt(i);
            }
            x.write(to - from, bytes);
        }
    }

    private static int faultOf(String text) {
        PlateLast x = new PlateLast();
        put(x, text);
        int fault = x.fault();
        due("table() of " + text, x.table(), fault == NONE ? text.charAt(1) - '0' : -3);
        return fault;
    }

    private static void dueFault(String text, int want) {
        due("fault() of " + text, faultOf(text), want);
    }

    public static void main(String[] args) {
        theText();
        theTextByNumbers();
        theFullText();
        theFirstSigns();
        seatsOfTheText();
        tenthsOfPennies();
        signsOfNets();
        tenthsOfNets();
        faultsOfTwoSeats();
        faultsOfEveryPrefix();
        lengthSetAside();
        rings();
        rowsEnds();
        stays();
        atFirst();
        madeAnew();
        begins();
        handsAsARow();
        thirtyHands();
        beingAt();
        allByHands();
        lastByHands();
        toSit();
        inTheEnd();
        means();
        rounds();
        meets();
        pennies();
        rowsOfHands();
        seen();
        eightSeen();
        waysOfHands();
        theLikeliest();
        byRule();
        theSeed();
        seedsWrapped();
        evenings();
        theUncle();
        slots();
        fullSlots();
        counts();
        leastTerms();
        System.out.println(looked + " answers looked at, " + wrong + " wrong");
        if (wrong != 0) {
            System.exit(1);
        }
    }

    // ---- the text

    private static void theText() {
        sentence = "2: n bytes of v, the lowest n, the highest of these first";
        String bytes = "T3H010H2";
        long v = 0;
        for (int i = 0; i < 8; i++) {
            v = v << 8 | bytes.charAt(i);
        }
        for (int n = 1; n <= 8; n++) {
            PlateLast x = new PlateLast();
            // what is written first makes the last n bytes go on with what is right
            String ahead = bytes.substring(0, 8 - n);
            put(x, ahead);
            due("write(" + n + ", ..) behind " + ahead, x.write(n, v), 8);
            due("fault()", x.fault(), 8);
            due("write(2, 10)", x.write(2, 0x3130L), 10);
            due("table()", x.table(), 3);
            due("chance(2, 1)", x.chance(2, 1), 10);
        }
        sentence = "2: bytes of v above 127";
        PlateLast x = new PlateLast();
        x.write(2, 0x5433L);
        due("write(1, 200)", x.write(1, 200), 3);
        due("fault()", x.fault(), 2);
        sentence = "3: THE TEXT is empty: how long it was";
        due("wipe()", x.wipe(), 3);
        due("wipe() of the empty one", x.wipe(), 0);
        due("count(0)", x.count(0), 0);
        due("fault()", x.fault(), 0);
        sentence = "3: what was wiped does not come back";
        put(x, "T3R5");
        x.wipe();
        x.write(2, 0x5434L);
        due("fault()", x.fault(), NONE);
        due("table()", x.table(), 4);
        due("count(7)", x.count(7), 2);
    }

    private static void theTextByNumbers() {
        sentence = "2: how long it is, for each n and each length of THE TEXT";
        for (int length = 88; length <= 98; length++) {
            for (int n = 1; n <= 8; n++) {
                PlateLast x = filled(length);
                int behind = length + n;
                due("write(" + n + ", ..) at " + length, x.write(n, 0), behind > 98 ? -4 : behind);
                due("count(0)", x.count(0), behind > 98 ? length : behind);
                due("wipe()", x.wipe(), behind > 98 ? length : behind);
            }
        }
    }

    private static PlateLast filled(int length) {
        PlateLast x = new PlateLast();
        for (int i = 0; i + 8 <= length; i += 8) {
            x.write(8, 0x5454545454545454L);
        }
        if (length % 8 > 0) {
            x.write(length % 8, 0x5454545454545454L);
        }
        return x;
    }

    private static String fullNet(int one, int other, int third) {
        StringBuilder text = new StringBuilder("T8");
        for (int from = 0; from < 8; from++) {
            text.append('H').append(from).append((from + 1) % 8).append(one);
            text.append('H').append(from).append((from + 2) % 8).append(other);
            text.append('H').append(from).append((from + 3) % 8).append(third);
        }
        return text.toString();
    }

    private static void theFullText() {
        sentence = "1: THE TEXT is bytes (98 at most), the full one is a TABLE too";
        PlateLast x = of(fullNet(4, 3, 3));
        due("count(0)", x.count(0), 98);
        due("fault()", x.fault(), NONE);
        due("chance(7, 0)", x.chance(7, 0), 4);
        due("chance(7, 2)", x.chance(7, 2), 3);
        due("chance(7, 3)", x.chance(7, 3), 0);
        sentence = "2: FULL: nothing comes, not even in part";
        due("write(1, ..)", x.write(1, 84), -4);
        due("fault()", x.fault(), NONE);
        due("table()", x.table(), 8);
        due("wipe()", x.wipe(), 98);
        put(x, fullNet(4, 3, 3).substring(0, 94));
        due("write(5, ..)", x.write(5, 0), -4);
        due("fault() of all but the last H", x.fault(), 94);
        due("write(4, H723)", x.write(4, 0x48373233L), 98);
        due("table()", x.table(), 8);
        sentence = "4: a FAULT in the last byte of the full one";
        dueFault(fullNet(4, 3, 3).substring(0, 97) + "4", 97);
        dueFault(fullNet(4, 3, 3).substring(0, 97) + "H", 97);
        sentence = "4: the full one is not at its end";
        dueFault(fullNet(4, 3, 2), 98);
        dueFault(fullNet(1, 1, 1), 98);
        dueFault(fullNet(4, 3, 3).substring(0, 97), 97);
    }

    // ---- what a TABLE is

    private static void theFirstSigns() {
        sentence = "1: a TABLE is a TEXT: T";
        for (int value = 0; value < 256; value++) {
            dueFault("" + (char) value, value == 'T' ? 1 : 0);
            dueFault((char) value + "2R5", value == 'T' ? NONE : 0);
        }
        sentence = "4: FAULT of the empty TEXT";
        dueFault("", 0);
        sentence = "1: then one of these: R, W, H";
        for (int value = 0; value < 256; value++) {
            boolean right = value == 'R' || value == 'W' || value == 'H';
            dueFault("T5" + (char) value, right ? 3 : 2);
        }
    }

    private static void seatsOfTheText() {
        sentence = "1: how many SEATS (a figure n, 2 to 8)";
        for (int value = 0; value < 256; value++) {
            boolean right = value >= '2' && value <= '8';
            dueFault("T" + (char) value, right ? NONE : 1);
            dueFault("T" + (char) value + "W3", right ? NONE : 1);
        }
        for (int seats = 2; seats <= 8; seats++) {
            PlateLast x = of("T" + seats + "R3");
            due("count(1)", x.count(1), seats);
            due("chance to the last SEAT", x.chance(0, seats - 1), seats == 2 ? 10 : 7);
            due("chance to the next one behind it", x.chance(0, seats), -1);
        }
    }

    private static void tenthsOfPennies() {
        sentence = "1: Rx, Wx by x tenths (0 to 9)";
        for (int value = 0; value < 256; value++) {
            boolean right = value >= '0' && value <= '9';
            dueFault("T3R" + (char) value, right ? NONE : 3);
            dueFault("T8W" + (char) value, right ? NONE : 3);
            dueFault("T2R" + (char) value, right ? NONE : 3);
        }
        sentence = "4: whatever comes behind a whole Rx, Wx is too much";
        for (int value = 0; value < 256; value++) {
            dueFault("T3R5" + (char) value, 4);
            dueFault("T3W0" + (char) value, 4);
        }
        sentence = "4: its length, if it is only not at its end";
        dueFault("T", 1);
        dueFault("T3R", 3);
        dueFault("T3W", 3);
    }

    private static void signsOfNets() {
        for (int value = 0; value < 256; value++) {
            char sign = (char) value;
            sentence = "1: none or more H, nothing else behind one";
            dueFault("T4H010" + sign, sign == 'H' ? 7 : 6);
            sentence = "1: from SEAT i: a SEAT of which not ten are told yet";
            boolean from = sign == '0' || sign == '2' || sign == '3';
            dueFault("T4H100H" + sign, from ? 8 : 7);
            sentence = "1: to j (unlike ones)";
            boolean to = sign == '0' || sign == '1' || sign == '3';
            dueFault("T4H2" + sign, to ? 5 : 4);
            sentence = "1: to j (no two twice)";
            boolean other = sign == '0' || sign == '3';
            dueFault("T4H213H2" + sign, other ? 9 : 8);
            sentence = "1: by x tenths (1 to 9; 0: ten)";
            boolean tenths = sign >= '0' && sign <= '9';
            dueFault("T4H21" + sign, !tenths ? 5 : sign == '0' ? NONE : 6);
        }
        sentence = "1: from SEAT i, the last one and the next behind it";
        for (int seats = 2; seats <= 8; seats++) {
            dueFault("T" + seats + "H" + (seats - 1), 4);
            dueFault("T" + seats + "H" + seats, 3);
            dueFault("T" + seats + "H0" + (seats - 1), 5);
            dueFault("T" + seats + "H0" + seats, 4);
        }
        sentence = "4: its length, if it is only not at its end";
        dueFault("T4H", 3);
        dueFault("T4H0", 4);
        dueFault("T4H01", 5);
        dueFault("T4H015", 6);
        dueFault("T4H015H", 7);
    }

    private static void tenthsOfNets() {
        for (int first = 1; first <= 9; first++) {
            for (int second = 0; second <= 9; second++) {
                String text = "T4H30" + first + "H31" + second;
                int together = first + (second == 0 ? 10 : second);
                sentence = "1: together no more than ten from one SEAT";
                dueFault(text, together > 10 ? 9 : together == 10 ? NONE : 10);
                sentence = "4: what is left can come from the last other SEAT alone";
                String three = "T3H20" + first + "H21" + second;
                dueFault(three, together == 10 ? NONE : 9);
            }
        }
        sentence = "4: one other SEAT alone must get all ten";
        for (int tenths = 0; tenths <= 9; tenths++) {
            dueFault("T2H01" + tenths, tenths == 0 ? NONE : 5);
        }
        sentence = "1: seven others, a tenth each and the rest";
        StringBuilder text = new StringBuilder("T8");
        for (int to = 1; to < 7; to++) {
            text.append("H0").append(to).append(1);
            dueFault(text.toString(), text.length());
        }
        for (int tenths = 0; tenths <= 9; tenths++) {
            dueFault(text + "H07" + tenths, tenths == 4 ? NONE : text.length() + 3);
        }
        sentence = "4: an H when from no SEAT any is left to be told";
        dueFault("T3H010H120H200", NONE);
        dueFault("T3H010H120H200H", 14);
        dueFault("T3H010H120H205H", 15);
        dueFault("T3H010H120H205H215H", 18);
        sentence = "1: less than ten, but more than none: none yet, from any SEAT";
        for (int seat = 0; seat < 8; seat++) {
            dueFault("T8H" + seat + (seat + 1) % 8 + 9, 6);
            dueFault("T8H" + seat + (seat + 1) % 8 + 9 + "H" + seat + (seat + 2) % 8 + 1, NONE);
        }
    }

    /** There are no more than these TABLES of two SEATS: what a FAULT is can be seen by comparing. */
    private static List<String> tablesOfTwo() {
        List<String> tables = new ArrayList<>();
        tables.add("T2");
        for (int x = 0; x <= 9; x++) {
            tables.add("T2R" + x);
            tables.add("T2W" + x);
        }
        tables.add("T2H010");
        tables.add("T2H100");
        tables.add("T2H010H100");
        tables.add("T2H100H010");
        return tables;
    }

    private static int faultByComparing(List<String> tables, String text) {
        if (tables.contains(text)) {
            return NONE;
        }
        int most = 0;
        for (String table : tables) {
            int like = 0;
            while (like < table.length() && like < text.length() && table.charAt(like) == text.charAt(like)) {
                like++;
            }
            most = Math.max(most, like);
        }
        return most;
    }

    private static void faultsOfTwoSeats() {
        sentence = "4: FAULT of whatever is near a TABLE of two SEATS";
        List<String> tables = tablesOfTwo();
        String signs = "TRWH0123459 ";
        for (String table : tables) {
            for (int place = 2; place <= table.length(); place++) {
                String ahead = table.substring(0, place);
                dueFault(ahead, faultByComparing(tables, ahead));
                for (char sign : signs.toCharArray()) {
                    String put = ahead + sign + table.substring(place);
                    dueFault(put, faultByComparing(tables, put));
                    String over = ahead + sign + table.substring(Math.min(place + 1, table.length()));
                    dueFault(over, faultByComparing(tables, over));
                }
            }
        }
    }

    private static void faultsOfEveryPrefix() {
        sentence = "4: what can still become a TABLE has its length as FAULT, or none";
        String text = "T5H102H015H301H242H023H128H032H328H218H400H341";
        for (int length = 0; length <= text.length(); length++) {
            String part = text.substring(0, length);
            boolean whole = length == 2 || length == text.length();
            dueFault(part, whole ? NONE : length);
        }
        sentence = "4: the first byte by which it can be none, not a later one";
        dueFault("T9R:", 1);
        dueFault("X9", 0);
        dueFault("T4H44", 3);
        dueFault("T4H00:", 4);
        dueFault("T4H010H01", 7);
        dueFault("T4H019H020H", 9);
        dueFault("T4H0191", 6);
        dueFault("T4h010", 2);
    }

    private static void lengthSetAside() {
        sentence = "4: its length set aside";
        StringBuilder text = new StringBuilder("T8");
        for (int from = 0; from < 4; from++) {
            for (int to = 0; to < 8 && text.length() < 90; to++) {
                if (to != from) {
                    text.append('H').append(from).append(to).append(1);
                    if (to == 7 || from == 7 && to == 6) {
                        text.setCharAt(text.length() - 1, '4');
                    }
                }
            }
        }
        text.append("H701H7");
        due("bytes of it", text.length(), 96);
        dueFault(text.toString(), 96);
        dueFault(text + "1", 97);
        dueFault(text + "11", 98);
        dueFault(text + "0", 96);
        dueFault(text + "10", 97);
    }

    // ---- tables

    private static void rings() {
        for (int seats = 2; seats <= 8; seats++) {
            for (int x = 0; x <= 9; x++) {
                sentence = "1: a RING: the next one (behind the last SEAT 0) by x, the one ahead by the rest";
                PlateLast ring = of("T" + seats + "R" + x);
                for (int from = 0; from < seats; from++) {
                    for (int to = 0; to < seats; to++) {
                        boolean next = to == (from + 1) % seats;
                        boolean ahead = from == (to + 1) % seats;
                        int want = (next ? x : 0) + (ahead ? 10 - x : 0);
                        due("chance(" + from + ", " + to + ")", ring.chance(from, to), want);
                    }
                }
                sentence = "1: of two SEATS: the other one by all ten";
                if (seats == 2) {
                    due("hand(1)", ring.hand(1), 3);
                    due("hand(0)", ring.hand(0), 3);
                    due("hand(0)", ring.hand(0), -3);
                }
            }
        }
        sentence = "1: behind the last SEAT 0, for all that goes round";
        PlateLast x = of("T8R9", 7);
        dueFraction("at(1, 0)", x.at(1, 0, true), x.at(1, 0, false), 9, 10);
        dueFraction("at(1, 6)", x.at(1, 6, true), x.at(1, 6, false), 1, 10);
        due("likeliest(9)", x.likeliest(9), 12345670);
        due("judge(2, 1)", x.judge(2, 1), NONE);
        due("judge(2, 7)", x.judge(2, 7), NONE);
        due("rule()", x.rule(), 7);
        due("hand(0)", x.hand(0), 129);
        due("hand(7)", x.hand(7), 129);
        dueFraction("meet(7, 1, 1)", x.meet(7, 1, 1, true), x.meet(7, 1, 1, false), 9, 100);
        dueFraction("mean(7, 0) by ten", of("T8R0").mean(0, 7, true), 1, 1, 1);
        dueFraction("mean(7, 0) the long way", of("T8R0").mean(7, 0, true), 1, 7, 1);
    }

    private static void rowsEnds() {
        sentence = "1: a ROW: SEAT 0 and the last one have one neighbour alone, that gets it by all ten";
        for (int seats = 2; seats <= 8; seats++) {
            for (int x = 0; x <= 9; x++) {
                PlateLast row = of("T" + seats + "W" + x);
                due("count(7)", row.count(7), 1);
                for (int from = 0; from < seats; from++) {
                    for (int to = 0; to < seats; to++) {
                        due("chance(" + from + ", " + to + ")", row.chance(from, to), rowChance(seats, x, from, to));
                    }
                }
            }
        }
    }

    private static int rowChance(int seats, int x, int from, int to) {
        if (from == 0) {
            return to == 1 ? 10 : 0;
        }
        if (from == seats - 1) {
            return to == seats - 2 ? 10 : 0;
        }
        return to == from + 1 ? x : to == from - 1 ? 10 - x : 0;
    }

    private static void stays() {
        sentence = "1: of a SEAT that no H tells from the plate stays there";
        for (int seats = 2; seats <= 8; seats++) {
            PlateLast x = of("T" + seats);
            due("count(7)", x.count(7), 2);
            for (int seat = 0; seat < seats; seat++) {
                due("begin", x.begin(seat), Math.max(0, seat - 1));
                due("chance to itself", x.chance(seat, seat), 10);
                due("chance to another", x.chance(seat, (seat + 1) % seats), 0);
                due("hand to itself", x.hand(seat), 1 << seat);
                due("hand to another", x.hand((seat + 1) % seats), -3);
                due("count(5)", x.count(5), 1);
            }
        }
        sentence = "1: from a SEAT that hands it on not to itself";
        PlateLast x = of("T3H010H100");
        due("chance(0, 0)", x.chance(0, 0), 0);
        due("chance(2, 2)", x.chance(2, 2), 10);
        due("hand(0)", x.hand(0), -3);
    }

    private static void atFirst() {
        sentence = "1: at first THE TABLE is T2R5: two SEATS, a RING";
        PlateLast x = new PlateLast();
        due("count(0)", x.count(0), 0);
        due("count(1)", x.count(1), 2);
        due("count(2)", x.count(2), 0);
        due("count(3)", x.count(3), 0);
        due("count(4)", x.count(4), 1);
        due("count(5)", x.count(5), 0);
        due("count(6)", x.count(6), 0);
        due("count(7)", x.count(7), 0);
        due("fault() of no TEXT yet", x.fault(), 0);
        due("chance(0, 1)", x.chance(0, 1), 10);
        due("seed(0)", x.seed(0), 0);
        due("rule()", x.rule(), 1);
        due("sit(12)", x.sit(12), 1);
        dueFraction("all(0)", x.all(0, true), x.all(0, false), 0, 1);
        dueFraction("all(1)", x.all(1, true), x.all(1, false), 1, 1);
    }

    private static void madeAnew() {
        sentence = "5: HANDS are none, nothing is SEEN, what was kept is gone; THE SEED stays";
        PlateLast x = of("T4R5", 3);
        x.hand(0);
        x.see(1, 1);
        x.seed(5);
        x.keep(0);
        x.keep(1);
        put(x, "T4R");
        due("table()", x.table(), -3);
        due("count(5)", x.count(5), 1);
        due("again(0) behind a refused one", x.again(0), 1);
        put(x, "T4R5");
        due("count(2) before it is made", x.count(2), 3);
        due("table()", x.table(), 4);
        due("count(0): THE TEXT is as it was", x.count(0), 4);
        due("count(2)", x.count(2), 0);
        due("count(3)", x.count(3), 0);
        due("count(4)", x.count(4), 1);
        due("count(5)", x.count(5), 0);
        due("count(6)", x.count(6), 0);
        due("ways(1)", x.ways(1), 2);
        due("back()", x.back(), -3);
        due("again(0)", x.again(0), -3);
        due("again(1)", x.again(1), -3);
        due("seed(6)", x.seed(6), 5);
        sentence = "5: of THE TABLE before nothing is left, nor of what was only looked at";
        PlateLast other = of("T3");
        put(other, "T3H120H210");
        due("fault()", other.fault(), NONE);
        put(other, "T3R4");
        due("table()", other.table(), 3);
        for (int from = 0; from < 3; from++) {
            due("chance to itself", other.chance(from, from), 0);
            due("chance to the next one", other.chance(from, (from + 1) % 3), 4);
            due("chance to the one ahead", other.chance(from, (from + 2) % 3), 6);
        }
        put(other, "T3H100");
        due("table()", other.table(), 3);
        due("chance(1, 2)", other.chance(1, 2), 0);
        due("chance(2, 2)", other.chance(2, 2), 10);
        due("end(1)", other.end(1, true), -3);
        sentence = "5: fewer SEATS than the one where THE PLATE was";
        x.begin(3);
        put(x, "T2");
        due("table()", x.table(), 2);
        due("count(3)", x.count(3), 0);
        due("begin(3)", x.begin(3), -1);
        due("begin(1)", x.begin(1), 0);
    }

    private static void begins() {
        sentence = "7: BEGIN is a SEAT: THE PLATE is there, HANDS are none: which it was";
        for (int seats = 2; seats <= 8; seats++) {
            PlateLast x = of("T" + seats + "R5");
            int before = 0;
            for (int seat = seats - 1; seat >= 0; seat--) {
                x.hand((x.count(3) + 1) % seats);
                due("begin(" + seat + ")", x.begin(seat), before);
                due("count(2)", x.count(2), seat);
                due("count(3)", x.count(3), seat);
                due("count(4)", x.count(4), 1 << seat);
                due("count(5)", x.count(5), 0);
                due("back()", x.back(), -3);
                before = seat;
            }
            due("begin(" + seats + ")", x.begin(seats), -1);
            due("begin(-1)", x.begin(-1), -1);
        }
        sentence = "7: THE SEED, what is SEEN and what is kept are not named";
        PlateLast x = of("T4R5");
        x.see(1, 1);
        x.seed(9);
        x.hand(1);
        x.keep(1);
        x.begin(0);
        due("count(6)", x.count(6), 1);
        due("seed(8)", x.seed(8), 9);
        due("again(1)", x.again(1), 1);
        due("seed(0)", x.seed(0), 9);
    }

    private static void handsAsARow() {
        sentence = "8: who HAD it, as bits, the last SEAT too";
        PlateLast x = of("T8R9");
        int had = 1;
        for (int seat = 1; seat < 8; seat++) {
            had |= 1 << seat;
            due("hand(" + seat + ")", x.hand(seat), had);
        }
        due("hand(0)", x.hand(0), 255);
        sentence = "9: the last HAND is taken back: how many are left";
        for (int left = 7; left >= 0; left--) {
            due("back()", x.back(), left);
            due("count(3)", x.count(3), left);
            due("count(4)", x.count(4), (1 << left + 1) - 1);
        }
        due("back()", x.back(), -3);
        sentence = "9: one that had it before still HAD it";
        x.hand(1);
        x.hand(0);
        x.hand(1);
        due("back()", x.back(), 2);
        due("count(4)", x.count(4), 3);
        due("count(3)", x.count(3), 0);
        sentence = "1: by some chance: one tenth is some, none is none";
        due("hand(7) by one tenth", of("T8R9").hand(7), 129);
        due("hand(1) by none", of("T8R0").hand(1), -3);
        due("hand(7) by ten", of("T8R0").hand(7), 129);
    }

    private static void thirtyHands() {
        sentence = "8: HANDS are a row (30 at most), FULL: 30";
        PlateLast x = of("T3R5");
        for (int i = 1; i <= 30; i++) {
            due("count(5)", x.count(5), i - 1);
            due("hand " + i, x.hand(i % 3), i == 1 ? 3 : 7);
        }
        due("hand 31", x.hand(1), -4);
        due("count(5)", x.count(5), 30);
        due("count(3)", x.count(3), 0);
        sentence = "9: of thirty, and there is room for one again";
        due("back()", x.back(), 29);
        due("count(3)", x.count(3), 2);
        due("hand(1)", x.hand(1), 7);
        due("hand(2)", x.hand(2), -4);
        due("begin(0)", x.begin(0), 0);
        due("hand(2) when HANDS are none", x.hand(2), 5);
        sentence = "8: FULL: 30 where it stays too";
        x = of("T2");
        for (int i = 1; i <= 30; i++) {
            due("hand " + i, x.hand(0), 1);
        }
        due("hand 31", x.hand(0), -4);
    }

    // ---- chances

    private static void beingAt() {
        sentence = "10: AT a SEAT behind n HANDS (0 to 12)";
        PlateLast x = of("T3R5");
        for (int n = 1; n <= 12; n++) {
            // a third, and two thirds of what is halved each time, now more, now less
            long below = 1L << n - 1;
            long above = (below + (n % 2 == 0 ? 1 : -1)) / 3;
            dueFraction("at(" + n + ", 0)", x.at(n, 0, true), x.at(n, 0, false), above, above == 0 ? 1 : below);
        }
        sentence = "10: behind none it is where it is";
        x.hand(2);
        for (int seat = 0; seat < 3; seat++) {
            dueFraction("at(0, " + seat + ")", x.at(0, seat, true), x.at(0, seat, false), seat == 2 ? 1 : 0, 1);
        }
        sentence = "10: from where THE PLATE is now, not from BEGIN";
        dueFraction("at(1, 2)", x.at(1, 2, true), x.at(1, 2, false), 0, 1);
        dueFraction("at(1, 0)", x.at(1, 0, true), x.at(1, 0, false), 1, 2);
        sentence = "10: behind twelve, in trillionths before they are put in least terms";
        x = of("T3R9");
        BigInteger trillion = BigInteger.TEN.pow(12);
        for (int seat = 0; seat < 3; seat++) {
            BigInteger weight = ringOfThree(12).get(seat);
            BigInteger shared = weight.gcd(trillion);
            dueFraction("at(12, " + seat + ")", x.at(12, seat, true), x.at(12, seat, false),
                weight.divide(shared).longValueExact(), trillion.divide(shared).longValueExact());
        }
    }

    /** On a ring of three by nine tenths: weights of the SEATS behind n HANDS, from SEAT 0. */
    private static List<BigInteger> ringOfThree(int n) {
        List<BigInteger> now = new ArrayList<>(List.of(BigInteger.ONE, BigInteger.ZERO, BigInteger.ZERO));
        for (int step = 0; step < n; step++) {
            List<BigInteger> next = new ArrayList<>();
            for (int seat = 0; seat < 3; seat++) {
                BigInteger on = now.get((seat + 2) % 3).multiply(BigInteger.valueOf(9));
                next.add(on.add(now.get((seat + 1) % 3)));
            }
            now = next;
        }
        return now;
    }

    private static void allByHands() {
        sentence = "11: ALL by n HANDS (0 to 12)";
        PlateLast x = of("T3R5");
        for (int n = 0; n <= 12; n++) {
            // behind the first HAND each one leaves the third out by half
            long below = n < 1 ? 1 : 1L << n - 1;
            dueFraction("all(" + n + ")", x.all(n, true), x.all(n, false), below - 1, below);
        }
        sentence = "11: one HAND too few, just enough";
        for (int seats = 2; seats <= 8; seats++) {
            PlateLast row = of("T" + seats + "W5");
            due("all too few", row.all(seats - 2, true), 0);
            due("all just enough", row.all(seats - 1, true), 1);
            due("all just enough, below", row.all(seats - 1, false), 1L << seats - 2);
        }
        sentence = "11: who HAD it counts, all of them now too";
        x.hand(1);
        dueFraction("all(0) of two", x.all(0, true), x.all(0, false), 0, 1);
        dueFraction("all(1) of two", x.all(1, true), x.all(1, false), 1, 2);
        x.hand(2);
        for (int n = 0; n <= 12; n++) {
            dueFraction("all(" + n + ") of all", x.all(n, true), x.all(n, false), 1, 1);
        }
        x.back();
        dueFraction("all(0) taken back", x.all(0, true), x.all(0, false), 0, 1);
        sentence = "11: whoever is last, SEAT 0 too";
        dueFraction("all(2) from 1", of("T3R0", 1).all(2, true), of("T3R0", 1).all(2, false), 1, 1);
        dueFraction("all(2) from 2", of("T3R9", 2).all(2, true), of("T3R9", 2).all(2, false), 41, 50);
        dueFraction("all(2) of a ROW from 2", of("T3W5", 2).all(2, true), of("T3W5", 2).all(2, false), 1, 2);
        sentence = "11: where it stays never";
        dueFraction("all(12)", of("T2").all(12, true), of("T2").all(12, false), 0, 1);
    }

    private static void lastByHands() {
        sentence = "12: LAST by n HANDS (0 to 12)";
        PlateLast x = of("T3R5");
        for (int n = 0; n <= 12; n++) {
            long below = n < 2 ? 1 : 1L << n;
            long above = n < 2 ? 0 : (1L << n - 1) - 1;
            dueFraction("last(" + n + ", 1)", x.last(n, 1, true), x.last(n, 1, false), above, below);
            dueFraction("last(" + n + ", 2)", x.last(n, 2, true), x.last(n, 2, false), above, below);
            sentence = "12: 0 of those that had it";
            dueFraction("last(" + n + ", 0)", x.last(n, 0, true), x.last(n, 0, false), 0, 1);
        }
        x.hand(2);
        for (int n = 0; n <= 12; n++) {
            dueFraction("last(" + n + ", 2) that had it", x.last(n, 2, true), x.last(n, 2, false), 0, 1);
            long below = 1L << n;
            dueFraction("last(" + n + ", 1)", x.last(n, 1, true), x.last(n, 1, false), below - 1, below);
        }
        sentence = "12: if all have HAD it now, 0 for each";
        x.hand(1);
        for (int n = 0; n <= 12; n++) {
            for (int seat = 0; seat < 3; seat++) {
                dueFraction("last(" + n + ", " + seat + ")", x.last(n, seat, true), x.last(n, seat, false), 0, 1);
            }
        }
        sentence = "12: all ways together are ALL";
        x = of("T8R5");
        dueFraction("last(7, 7)", x.last(7, 7, true), x.last(7, 7, false), 1, 128);
        dueFraction("last(7, 1)", x.last(7, 1, true), x.last(7, 1, false), 1, 128);
        dueFraction("last(7, 4)", x.last(7, 4, true), x.last(7, 4, false), 0, 1);
        dueFraction("last(6, 7)", x.last(6, 7, true), x.last(6, 7, false), 0, 1);
    }

    private static void toSit() {
        sentence = "13: of SEATS other than BEGIN; of like ones the least";
        for (int seats = 2; seats <= 8; seats++) {
            PlateLast x = of("T" + seats + "R5");
            for (int begin = 0; begin < seats; begin++) {
                x.begin(begin);
                due("sit(0) from " + begin, x.sit(0), begin == 0 ? 1 : 0);
                due("sit(1) from " + begin, x.sit(1), begin == 0 ? 1 : 0);
            }
        }
        sentence = "13: that with the least chance to be LAST";
        // by seven HANDS the neighbours alone can be last
        due("sit(7)", of("T8R5").sit(7), 2);
        due("sit(7) from 1", of("T8R5", 1).sit(7), 3);
        due("sit(7) from 7", of("T8R5", 7).sit(7), 1);
        due("sit(6)", of("T8R5").sit(6), 1);
        due("sit(12) of R9", of("T3R9").sit(12), 1);
        due("sit(12) of R1", of("T3R1").sit(12), 2);
        due("sit(12) of two", of("T2R5").sit(12), 1);
        due("sit(12) of two, from 1", of("T2R5", 1).sit(12), 0);
        sentence = "13: if one evening begins at BEGIN, whoever HAD it now";
        PlateLast x = of("T3R1");
        x.hand(2);
        due("sit(12)", x.sit(12), 2);
        x.hand(1);
        due("sit(12)", x.sit(12), 2);
        sentence = "13: where none can be LAST the least SEAT";
        due("sit(12)", of("T8").sit(12), 1);
        due("sit(12) from 5", of("T8", 5).sit(12), 0);
    }

    private static void inTheEnd() {
        sentence = "14: on a RING by 1 to 9 tenths, of three SEATS or more";
        for (int seats = 2; seats <= 8; seats++) {
            for (int x = 0; x <= 9; x++) {
                PlateLast ring = of("T" + seats + "R" + x);
                boolean such = seats >= 3 && x >= 1;
                due("end(1)", ring.end(1, true) > 0 ? 1 : ring.end(1, true), such ? 1 : -3);
                due("end(0)", ring.end(0, true), such ? 0 : -3);
                due("end(0) below", ring.end(0, false), such ? 1 : -3);
                due("end of no SEAT", ring.end(seats, true), -1);
                due("end(1) of a ROW", of("T" + seats + "W" + x).end(1, true), -3);
            }
        }
        sentence = "14: an H like a RING is none";
        due("end(1)", of("T3H015H025H105H125H205H215").end(1, true), -3);
        sentence = "14: from BEGIN, round the ring's end";
        for (int begin = 0; begin < 4; begin++) {
            PlateLast x = of("T4R9", begin);
            x.hand((begin + 1) % 4);
            long[] want = {0, 1, 9, 81};
            for (int steps = 0; steps < 4; steps++) {
                int seat = (begin + steps) % 4;
                dueFraction("end(" + seat + ") from " + begin, x.end(seat, true), x.end(seat, false),
                    want[steps], steps == 0 ? 1 : 91);
            }
        }
        sentence = "14: by five tenths all alike";
        for (int seats = 3; seats <= 8; seats++) {
            PlateLast x = of("T" + seats + "R5", seats - 1);
            for (int seat = 0; seat < seats - 1; seat++) {
                dueFraction("end(" + seat + ")", x.end(seat, true), x.end(seat, false), 1, seats - 1);
            }
        }
    }

    private static void means() {
        sentence = "15: 0 to itself";
        for (String text : new String[] {"T2R5", "T8R0", "T8W9", "T8", "T3H010"}) {
            PlateLast x = of(text);
            for (int seat = 0; seat < x.count(1); seat++) {
                dueFraction("mean of " + seat + " to itself", x.mean(seat, seat, true), x.mean(seat, seat, false), 0, 1);
                sentence = "16: 0 to itself and back";
                dueFraction("round of " + seat, x.round(seat, seat, true), x.round(seat, seat, false), 0, 1);
            }
        }
        sentence = "15: NONE: it may never be";
        PlateLast x = of("T4H019H021H100");
        for (boolean upper : new boolean[] {true, false}) {
            due("mean(0, 1): it may stay at 2", x.mean(0, 1, upper), NONE);
            due("mean(0, 3): no one hands it there", x.mean(0, 3, upper), NONE);
            due("mean(2, 0): it stays", x.mean(2, 0, upper), NONE);
            due("mean(3, 0): it stays", x.mean(3, 0, upper), NONE);
        }
        sentence = "15: 0 to itself, behind another MEAN too";
        dueFraction("mean(1, 0)", x.mean(1, 0, true), x.mean(1, 0, false), 1, 1);
        dueFraction("mean(1, 1)", x.mean(1, 1, true), x.mean(1, 1, false), 0, 1);
        dueFraction("round(1, 1)", x.round(1, 1, true), x.round(1, 1, false), 0, 1);
        sentence = "15: a SEAT to which it does not come on the way is none of the way";
        dueFraction("mean(1, 2)", of("T3H120H210").mean(1, 2, true), of("T3H120H210").mean(1, 2, false), 1, 1);
        dueFraction("mean(0, 1)", of("T3H010H100").mean(0, 1, true), of("T3H010H100").mean(0, 1, false), 1, 1);
        sentence = "15: what may surely be is not NONE, however seldom the way";
        dueFraction("mean(0, 2)", x.mean(0, 2, true), x.mean(0, 2, false), 19, 1);
        dueFraction("mean(1, 2)", x.mean(1, 2, true), x.mean(1, 2, false), 20, 1);
        dueFraction("mean(1, 0)", x.mean(1, 0, true), x.mean(1, 0, false), 1, 1);
        sentence = "15: the longest way, by a tenth each time or back to the start";
        x = of("T8H010H121H109H231H209H341H309H451H409H561H509H671H609");
        dueFraction("mean(0, 7)", x.mean(0, 7, true), x.mean(0, 7, false), 2111110, 1);
        sentence = "15: of two SEATS";
        dueFraction("mean(0, 1)", of("T2R0").mean(0, 1, true), of("T2W9").mean(1, 0, false), 1, 1);
        sentence = "15: from a SEAT, wherever THE PLATE is";
        x = of("T8R5", 3);
        x.hand(4);
        dueFraction("mean(0, 7) round the end", x.mean(0, 7, true), x.mean(0, 7, false), 7, 1);
        dueFraction("mean(7, 0) round the end", x.mean(7, 0, true), x.mean(7, 0, false), 7, 1);
        dueFraction("mean(7, 3)", x.mean(7, 3, true), x.mean(7, 3, false), 16, 1);
    }

    private static void rounds() {
        sentence = "16: there and back; NONE: there is no way there, or none back";
        PlateLast x = of("T3H010");
        for (boolean upper : new boolean[] {true, false}) {
            due("round(0, 1): not back", x.round(0, 1, upper), NONE);
            due("round(1, 0): not there", x.round(1, 0, upper), NONE);
            due("round(0, 2): neither", x.round(0, 2, upper), NONE);
        }
        sentence = "16: there and back are both counted";
        x = of("T8R0");
        for (int to = 1; to < 8; to++) {
            dueFraction("round(0, " + to + ")", x.round(0, to, true), x.round(0, to, false), 8, 1);
        }
        x = of("T3H018H022H100H200");
        // there 9 (1 and 8/2 times two), back 1
        dueFraction("round(0, 2)", x.round(0, 2, true), x.round(0, 2, false), 10, 1);
        dueFraction("round(2, 0)", x.round(2, 0, true), x.round(2, 0, false), 10, 1);
        sentence = "16: of unlike halves, in least terms";
        x = of("T3R7");
        dueFraction("round(2, 0) round the end", x.round(2, 0, true), x.round(2, 0, false), 300, 79);
    }

    private static void meets() {
        sentence = "17: by n HANDS (0 to 8)";
        PlateLast x = of("T3R5");
        long apart = 1;
        long below = 1;
        for (int n = 0; n <= 8; n++) {
            dueFraction("meet(0, 1, " + n + ")", x.meet(0, 1, n, true), x.meet(0, 1, n, false), below - apart, below);
            dueFraction("meet(2, 0, " + n + ")", x.meet(2, 0, n, true), x.meet(2, 0, n, false), below - apart, below);
            apart *= 3;
            below *= 4;
        }
        sentence = "17: at one SEAT at some time: at first too";
        for (int n = 0; n <= 8; n++) {
            dueFraction("meet(2, 2, " + n + ")", x.meet(2, 2, n, true), x.meet(2, 2, n, false), 1, 1);
        }
        sentence = "17: both at once: to change places is not to meet";
        dueFraction("meet(0, 1, 8)", of("T2R5").meet(0, 1, 8, true), of("T2R5").meet(1, 0, 8, false), 0, 1);
        sentence = "17: at some time, not at the end alone";
        x = of("T4H020H120H230H310");
        dueFraction("meet(0, 1, 1)", x.meet(0, 1, 1, true), x.meet(0, 1, 1, false), 1, 1);
        dueFraction("meet(0, 1, 8)", x.meet(0, 1, 8, true), x.meet(0, 1, 8, false), 1, 1);
        sentence = "17: a plate that stays";
        x = of("T3H010H120");
        dueFraction("meet(0, 2, 1)", x.meet(0, 2, 1, true), x.meet(0, 2, 1, false), 0, 1);
        dueFraction("meet(0, 2, 2)", x.meet(0, 2, 2, true), x.meet(0, 2, 2, false), 1, 1);
        sentence = "17: by just enough HANDS, by one too few";
        // a tenth six times brings one plate to where the other one stays
        x = of("T8H011H079H121H179H231H279H341H379H451H479H561H579");
        dueFraction("meet(0, 6, 6)", x.meet(0, 6, 6, true), x.meet(0, 6, 6, false), 1, 1000000);
        dueFraction("meet(0, 6, 5)", x.meet(0, 6, 5, true), x.meet(0, 6, 5, false), 0, 1);
    }

    // ---- pennies, rows

    private static void pennies() {
        sentence = "18: 1 to 9 tenths, each as likely";
        PlateLast x = new PlateLast();
        for (int tenths = 1; tenths <= 9; tenths++) {
            for (int k = 0; k <= 8; k += 4) {
                for (int m = 0; m <= 8; m += 4) {
                    BigInteger above = fall(tenths, k, m);
                    BigInteger below = BigInteger.ZERO;
                    for (int bent = 1; bent <= 9; bent++) {
                        below = below.add(fall(bent, k, m));
                    }
                    BigInteger shared = above.gcd(below);
                    dueFraction("penny(" + tenths + ", " + k + ", " + m + ")", x.penny(tenths, k, m, true),
                        x.penny(tenths, k, m, false), above.divide(shared).longValueExact(),
                        below.divide(shared).longValueExact());
                }
            }
            x = new PlateLast();
        }
        sentence = "18: k to the right, m to the left";
        dueFraction("penny(9, 8, 0)", x.penny(9, 8, 0, true), x.penny(9, 8, 0, false), 14348907, 22577111);
        dueFraction("penny(1, 0, 8)", x.penny(1, 0, 8, true), x.penny(1, 0, 8, false), 14348907, 22577111);
        dueFraction("penny(9, 0, 8)", x.penny(9, 0, 8, true), x.penny(9, 0, 8, false), 1, 67731333);
        sentence = "18: none to either side: one of nine";
        dueFraction("penny(1, 0, 0)", x.penny(1, 0, 0, true), x.penny(9, 0, 0, false), 1, 9);
    }

    private static BigInteger fall(int tenths, int k, int m) {
        return BigInteger.valueOf(tenths).pow(k).multiply(BigInteger.valueOf(10 - tenths).pow(m));
    }

    private static void rowsOfHands() {
        sentence = "19: the first place (from 0) where it can not be";
        PlateLast x = of("T3R9");
        int row = 120120120;
        int tens = 100000000;
        due("judge(9, row)", x.judge(9, row), NONE);
        for (int place = 0; place < 9; place++) {
            // nine is no SEAT, and no one hands it to himself
            int figure = row / tens % 10;
            int ahead = place == 0 ? 0 : row / tens / 10 % 10;
            due("judge with nine at " + place, x.judge(9, row + (9 - figure) * tens), place);
            due("judge with three at " + place, x.judge(9, row + (3 - figure) * tens), place);
            due("judge with itself at " + place, x.judge(9, row + (ahead - figure) * tens), place);
            dueFraction("likely with itself at " + place, x.likely(9, row + (ahead - figure) * tens, true),
                x.likely(9, row + (ahead - figure) * tens, false), 0, 1);
            tens /= 10;
        }
        sentence = "20: how likely it is, of nine HANDS";
        dueFraction("likely(9, row)", x.likely(9, row, true), x.likely(9, row, false), 387420489, 1000000000);
        dueFraction("likely by a tenth", of("T3R1").likely(9, row, true), of("T3R1").likely(9, row, false), 1, 1000000000);
        sentence = "19: a ROW of n HANDS (1 to 9), the first one first";
        tens = 100000000;
        for (int n = 1; n <= 9; n++) {
            due("judge(" + n + ", ..)", x.judge(n, row / tens), NONE);
            due("judge(" + n + ", ..) of one figure less", x.judge(n, row / tens / 10), 0);
            tens /= 10;
        }
        sentence = "19: figures that are 0 come first too";
        x = of("T3R9", 2);
        due("judge(2, 1)", x.judge(2, 1), NONE);
        due("judge(3, 1)", x.judge(3, 1), 1);
        due("judge(1, 0)", x.judge(1, 0), NONE);
        due("judge(2, 0)", x.judge(2, 0), 1);
        dueFraction("likely(2, 1)", x.likely(2, 1, true), x.likely(2, 1, false), 81, 100);
        sentence = "19: from BEGIN, wherever THE PLATE is";
        x.hand(1);
        due("judge(1, 0)", x.judge(1, 0), NONE);
        due("judge(1, 2)", x.judge(1, 2), 0);
        dueFraction("likely(1, 0)", x.likely(1, 0, true), x.likely(1, 0, false), 9, 10);
        dueFraction("likely(1, 2)", x.likely(1, 2, true), x.likely(1, 2, false), 0, 1);
        sentence = "19: where it stays";
        x = of("T2", 1);
        due("judge(9, 111111111)", x.judge(9, 111111111), NONE);
        dueFraction("likely(9, 111111111)", x.likely(9, 111111111, true), x.likely(9, 111111111, false), 1, 1);
        due("judge(9, 111111110)", x.judge(9, 111111110), 8);
        sentence = "19: the last SEAT and the figure behind it";
        x = of("T8R5");
        due("judge(1, 7)", x.judge(1, 7), NONE);
        due("judge(1, 8)", x.judge(1, 8), 0);
        due("judge(2, 78)", x.judge(2, 78), 1);
    }

    private static void seen() {
        sentence = "21: behind t HANDS (1 to 9) from BEGIN it was at a SEAT";
        for (int t = 1; t <= 9; t++) {
            PlateLast x = of("T3R5");
            due("see(" + t + ", 2)", x.see(t, 2), 1);
            for (int n = 1; n <= 9; n++) {
                int all = 1 << n;
                // of 2 to the t rows a third, one more or less, are at SEAT 2
                int fit = (((1 << t) + (t % 2 == 0 ? -1 : 1)) / 3) << Math.max(0, n - t);
                due("ways(" + n + ") seen behind " + t, x.ways(n), n < t ? all : fit);
            }
        }
        sentence = "21: from BEGIN, wherever THE PLATE is";
        PlateLast x = of("T3R5", 1);
        x.hand(2);
        x.hand(0);
        due("see(1, 0)", x.see(1, 0), 1);
        due("likeliest(1)", x.likeliest(1), 0);
        due("ways(1)", x.ways(1), 1);
        x.see(1, 1);
        due("ways(1) at two SEATS at once", x.ways(1), 0);
        sentence = "22: nothing is SEEN: how much was";
        due("unsee()", x.unsee(), 2);
        due("count(6)", x.count(6), 0);
        due("ways(1)", x.ways(1), 2);
        due("unsee() of nothing", x.unsee(), 0);
    }

    private static void eightSeen() {
        sentence = "21: 8 such at most, FULL: 8";
        PlateLast x = of("T3R5");
        for (int i = 1; i <= 8; i++) {
            due("count(6)", x.count(6), i - 1);
            due("see " + i, x.see(i, i % 3), i);
        }
        due("see 9", x.see(9, 0), -4);
        due("count(6)", x.count(6), 8);
        due("ways(8): each of the eight counts", x.ways(8), 1);
        due("ways(9): the ninth was not taken", x.ways(9), 2);
        due("likeliest(8)", x.likeliest(8), 12012012);
        due("unsee()", x.unsee(), 8);
        due("see behind it", x.see(9, 0), 1);
        sentence = "21: what is SEEN twice is two";
        x.unsee();
        for (int i = 1; i <= 8; i++) {
            due("see once more", x.see(1, 1), i);
        }
        due("see once more", x.see(1, 1), -4);
        due("ways(1)", x.ways(1), 1);
    }

    private static void waysOfHands() {
        sentence = "23: WAYS of n HANDS (1 to 9)";
        PlateLast x = of("T5H014H022H032H042H104H122H132H142H204H212H232H242H304H312H322H342H404H412H422H432");
        int ways = 1;
        for (int n = 1; n <= 9; n++) {
            ways *= 4;
            due("ways(" + n + ")", x.ways(n), ways);
        }
        sentence = "23: rows that can be, by one tenth as by ten";
        due("ways(9) by none one way", of("T3R0").ways(9), 1);
        due("ways(9) by a tenth one way", of("T3R1").ways(9), 512);
        due("ways(9) of two SEATS", of("T2R5").ways(9), 1);
        due("ways(9) where it stays", of("T2").ways(9), 1);
        sentence = "23: none that fits is 0";
        x = of("T2R5");
        x.see(1, 0);
        due("ways(1)", x.ways(1), 0);
        due("ways(9)", x.ways(9), 0);
        sentence = "23: what is SEEN behind the last HAND counts, what behind it does not";
        x.unsee();
        x.see(9, 0);
        due("ways(9)", x.ways(9), 0);
        due("ways(8)", x.ways(8), 1);
    }

    private static void theLikeliest() {
        sentence = "24: of n HANDS (1 to 9), as figures";
        PlateLast x = of("T8R9", 5);
        int row = 0;
        for (int n = 1; n <= 9; n++) {
            row = row * 10 + (5 + n) % 8;
            due("likeliest(" + n + ")", x.likeliest(n), row);
        }
        sentence = "24: the row's first figures may be 0";
        due("likeliest(1)", of("T3R9", 2).likeliest(1), 0);
        due("likeliest(2)", of("T3R9", 2).likeliest(2), 1);
        sentence = "24: of like ones the first";
        due("likeliest(9)", of("T8R5").likeliest(9), 101010101);
        due("likeliest(9) from 7", of("T8R5", 7).likeliest(9), 10101010);
        due("likeliest(3): first in figures, not in its end", of("T4H015H025H130H230H300").likeliest(3), 130);
        sentence = "24: of like ones the first, where each is of unlike steps";
        // 2 and then 8 tenths, or 4 and then 4, are alike
        x = of("T5H012H024H034H138H142H234H244H202H304H314H322H400");
        due("likeliest(2)", x.likeliest(2), 13);
        // by ten from SEAT 4: 2 and 4 and ten are more than 2 and 8 and 4
        due("likeliest(3)", x.likeliest(3), 240);
        x.see(2, 3);
        x.see(3, 1);
        due("likeliest(3) where SEAT 3 and 1 were seen", x.likeliest(3), 131);
        sentence = "24: the likeliest is not by the likeliest step each time";
        x = of("T5H016H024H135H145H230");
        due("likeliest(2)", x.likeliest(2), 23);
        sentence = "24: from BEGIN, wherever THE PLATE is";
        x = of("T8R9", 5);
        x.hand(6);
        x.hand(7);
        due("likeliest(3)", x.likeliest(3), 670);
        sentence = "24: NONE: there is none";
        x = of("T2R5");
        x.see(1, 0);
        due("likeliest(1)", x.likeliest(1), NONE);
        due("likeliest(9)", x.likeliest(9), NONE);
        x.unsee();
        x.see(9, 0);
        due("likeliest(9)", x.likeliest(9), NONE);
        due("likeliest(8): SEEN behind more HANDS", x.likeliest(8), 10101010);
        x.unsee();
        due("likeliest(9) when nothing is SEEN", x.likeliest(9), 101010101);
        sentence = "24: a row by a tenth each time is still one";
        x = of("T3R1");
        int seat = 0;
        row = 0;
        for (int t = 1; t <= 8; t++) {
            seat = (seat + 1) % 3;
            row = row * 10 + seat;
            x.see(t, seat);
        }
        due("likeliest(8)", x.likeliest(8), row);
        due("likeliest(9)", x.likeliest(9), row * 10 + 1);
    }

    // ---- rules, evenings

    private static void byRule() {
        sentence = "25: to that which HAD it fewest times; of like ones the least";
        for (int seats = 2; seats <= 8; seats++) {
            due("rule() of a RING", of("T" + seats + "R5").rule(), seats - 1);
            due("rule() of a RING from its end", of("T" + seats + "R5", seats - 1).rule(), seats - 1);
            due("rule() of a RING the other way", of("T" + seats + "R0").rule(), seats - 1);
            due("rule() of a ROW", of("T" + seats + "W0").rule(), seats == 2 ? 1 : NONE);
            due("rule() of a ROW", of("T" + seats + "W1").rule(), seats - 1);
        }
        sentence = "25: BEGIN HAD it once at first";
        // from 1 to 0, that had it never; back; then 2
        due("rule() of a ROW from within", of("T3W5", 1).rule(), 3);
        // at 1 the choice is BEGIN (once) or 2 (never)
        due("rule()", of("T3H010H105H125").rule(), 2);
        // at 2 BEGIN and 1 HAD it once: the least gets it, and hands it on to 3
        due("rule()", of("T4H015H035H120H205H215").rule(), 4);
        sentence = "25: of like ones the least";
        // by 1 to 3 and 2; by 2 it would be 3 and 2 for ever
        due("rule()", of("T4H015H025H130H230H320").rule(), 3);
        due("rule() in another order of THE TEXT", of("T4H320H230H130H025H015").rule(), 3);
        sentence = "25: the longest that was found by trying very many";
        due("rule()", of("T8H022H042H052H062H072H130H235H245H304H313H323H420H530H615H655H704H753H763").rule(), 39);
        due("rule() from 7", of("T8H050H130H234H243H273H315H325H430H505H535H604H623H643H723H733H752H762", 7).rule(), 46);
        sentence = "25: by some chance: not where it gets none";
        due("rule()", of("T3W0", 1).rule(), NONE);
        due("rule()", of("T3W9", 1).rule(), 3);
        sentence = "25: NONE: not by 99";
        due("rule() where it stays", of("T2").rule(), NONE);
        due("rule() where it comes to stay", of("T3H015H025").rule(), NONE);
        due("rule() of two that hand it to each other", of("T8H010H100").rule(), NONE);
        due("rule() where one is never handed it", of("T8H010H120H230H340H450H560H600").rule(), NONE);
        sentence = "25: from BEGIN, whoever HAD it now";
        PlateLast x = of("T4R5", 2);
        x.hand(1);
        x.hand(0);
        due("rule()", x.rule(), 3);
        due("count(5)", x.count(5), 2);
        x = of("T4H010H120H230");
        due("rule() from 0", x.rule(), 3);
        x.hand(1);
        due("rule() from 0, THE PLATE at 1", x.rule(), 3);
        x.begin(1);
        due("rule() from 1", x.rule(), NONE);
    }

    private static void theSeed() {
        sentence = "26: THE SEED is v: what it was (a long; 0 at first)";
        PlateLast x = new PlateLast();
        long before = 0;
        for (long v : new long[] {1, -1, Long.MAX_VALUE, Long.MIN_VALUE, 1L << 32, -(1L << 31), 0}) {
            due("seed(" + v + ")", x.seed(v), before);
            before = v;
        }
        due("seed(0)", x.seed(0), 0);
    }

    private static final BigInteger WRAP = BigInteger.ONE.shiftLeft(64);

    private static BigInteger drawn(BigInteger seed) {
        return seed.multiply(new BigInteger("6364136223846793005"))
            .add(new BigInteger("1442695040888963407")).mod(WRAP);
    }

    /** By numbers of any size: how many HANDS times ten and who was last, and THE SEED behind it. */
    private static long[] eveningOf(int[][] net, int begin, long from) {
        BigInteger seed = BigInteger.valueOf(from).mod(WRAP);
        boolean[] had = new boolean[net.length];
        had[begin] = true;
        int missing = net.length - 1;
        int place = begin;
        for (int hands = 1; hands <= 200; hands++) {
            if (net[place][place] == 10) {
                break;
            }
            seed = drawn(seed);
            int tenth = seed.shiftRight(33).mod(BigInteger.TEN).intValueExact();
            int to = 0;
            while (tenth >= net[place][to]) {
                tenth -= net[place][to];
                to++;
            }
            place = to;
            missing -= had[place] ? 0 : 1;
            had[place] = true;
            if (missing == 0) {
                return new long[] {10 * hands + place, seed.longValue()};
            }
        }
        return new long[] {NONE, seed.longValue()};
    }

    private static void dueEvening(PlateLast x, int[][] net, int begin, long seed) {
        x.begin(begin);
        x.seed(seed);
        long[] want = eveningOf(net, begin, seed);
        due("evening() from " + begin + " by " + seed, x.evening(), want[0]);
        due("seed(0) behind it", x.seed(0), want[1]);
    }

    private static int[][] ringOf(int seats, int x) {
        int[][] net = new int[seats][seats];
        for (int seat = 0; seat < seats; seat++) {
            net[seat][(seat + 1) % seats] += x;
            net[(seat + 1) % seats][seat] += 10 - x;
        }
        return net;
    }

    private static void seedsWrapped() {
        long[] seeds = {0, 1, -1, 2, Long.MAX_VALUE, Long.MIN_VALUE, Long.MAX_VALUE - 1, Long.MIN_VALUE + 1,
            1L << 32, 1L << 33, -(1L << 33), 0x7FFFFFFFL, -0x80000000L, 6364136223846793005L};
        sentence = "27: 64 bits, wrapping; of it the upper 31 bits, by ten what is left";
        for (int x = 1; x <= 9; x++) {
            PlateLast ring = of("T5R" + x);
            for (int i = 0; i < seeds.length; i++) {
                dueEvening(ring, ringOf(5, x), i % 5, seeds[i]);
            }
        }
        sentence = "27: x becomes that, once for each HAND";
        PlateLast two = new PlateLast();
        for (long seed : seeds) {
            two.seed(seed);
            due("evening()", two.evening(), 11);
            due("seed(0)", two.seed(0), drawn(BigInteger.valueOf(seed)).longValue());
        }
        sentence = "27: counts tenths of SEATS in order, whatever their order in THE TEXT";
        PlateLast net = of("T4H034H021H015H233H205H212H300H121H109");
        int[][] tenths = {{0, 5, 1, 4}, {9, 0, 1, 0}, {5, 2, 0, 3}, {10, 0, 0, 0}};
        for (int i = 0; i < 60; i++) {
            dueEvening(net, tenths, i % 4, seeds[i % seeds.length] + i);
        }
    }

    private static void evenings() {
        sentence = "27: till 200 HANDS";
        PlateLast x = of("T8W4", 1);
        x.seed(294);
        due("evening() of just 200", x.evening(), 2007);
        x.begin(0);
        x.seed(962);
        due("evening() that would take 201", x.evening(), NONE);
        sentence = "27: NONE: not all HAD it";
        x = of("T3H010H100");
        x.seed(1);
        BigInteger seed = BigInteger.ONE;
        for (int i = 0; i < 200; i++) {
            seed = drawn(seed);
        }
        due("evening() of two for ever", x.evening(), NONE);
        due("seed(0) behind 200 draws", x.seed(0), seed.longValue());
        sentence = "27: where it stays nothing is drawn";
        x = of("T3");
        x.seed(77);
        due("evening()", x.evening(), NONE);
        due("seed(0)", x.seed(0), 77);
        x = of("T3H010");
        x.seed(77);
        due("evening()", x.evening(), NONE);
        due("seed(0) behind one draw", x.seed(0), drawn(BigInteger.valueOf(77)).longValue());
        sentence = "27: from BEGIN, and THE PLATE stays where it is";
        x = of("T4R5", 1);
        x.hand(2);
        x.hand(3);
        x.seed(5);
        due("evening()", x.evening(), eveningOf(ringOf(4, 5), 1, 5)[0]);
        due("count(2)", x.count(2), 1);
        due("count(3)", x.count(3), 3);
        due("count(4)", x.count(4), 14);
        due("count(5)", x.count(5), 2);
        x = of("T4H010H120H230");
        x.hand(1);
        due("evening() from 0, THE PLATE at 1", x.evening(), 33);
        x.begin(1);
        due("evening() from 1", x.evening(), NONE);
    }

    private static void theUncle() {
        sentence = "28: of m EVENINGS (1 to 30), one behind the other";
        for (int m = 1; m <= 30; m++) {
            PlateLast x = of("T4R6", 3);
            long seed = -m;
            int[] times = new int[4];
            for (int i = 0; i < m; i++) {
                long[] one = eveningOf(ringOf(4, 6), 3, seed);
                times[(int) (one[0] % 10)]++;
                seed = one[1];
            }
            for (int seat = 0; seat < 4; seat++) {
                x.seed(-m);
                due("uncle(" + m + ", " + seat + ")", x.uncle(m, seat), times[seat]);
                due("seed(0) behind them", x.seed(0), seed);
            }
        }
        sentence = "28: BEGIN is never last";
        due("uncle(30, 0)", of("T2R5").uncle(30, 0), 0);
        due("uncle(30, 1)", of("T2R5").uncle(30, 1), 30);
        sentence = "28: an EVENING without a last one counts for none";
        PlateLast x = of("T2");
        x.seed(8);
        due("uncle(30, 0)", x.uncle(30, 0), 0);
        due("uncle(30, 1)", x.uncle(30, 1), 0);
        due("seed(0)", x.seed(0), 8);
        x = of("T8");
        for (int seat = 0; seat < 8; seat++) {
            due("uncle(30, " + seat + ")", x.uncle(30, seat), 0);
        }
    }

    // ---- slots

    private static void slots() {
        sentence = "29: SLOTS 0 to 1, each by itself";
        PlateLast x = of("T4R5");
        due("keep(0)", x.keep(0), 0);
        x.begin(3);
        x.hand(0);
        x.see(1, 0);
        x.seed(Long.MIN_VALUE);
        due("keep(1)", x.keep(1), 1);
        sentence = "30: BEGIN, where THE PLATE is, who HAD it, HANDS, THE SEED, what is SEEN";
        due("again(0)", x.again(0), 0);
        dueNight(x, 0, 0, 1, 0, 0, 0);
        due("again(1)", x.again(1), 1);
        dueNight(x, 3, 0, 9, 1, 1, Long.MIN_VALUE);
        due("ways(1)", x.ways(1), 1);
        due("back()", x.back(), 0);
        due("count(3)", x.count(3), 3);
        sentence = "30: as often as one likes";
        due("again(1)", x.again(1), 1);
        due("again(1)", x.again(1), 1);
        dueNight(x, 3, 0, 9, 1, 1, Long.MIN_VALUE);
        sentence = "29: kept anew";
        x.again(0);
        due("keep(1)", x.keep(1), 0);
        x.begin(2);
        due("again(1)", x.again(1), 0);
        dueNight(x, 0, 0, 1, 0, 0, 0);
        sentence = "30: an EVENING behind it is drawn as the first time";
        x.seed(5);
        x.keep(0);
        int first = x.evening();
        int second = x.evening();
        x.again(0);
        due("evening()", x.evening(), first);
        due("evening()", x.evening(), second);
        sentence = "29: THE TEXT and THE TABLE are not kept";
        put(x, "T5W");
        due("again(0)", x.again(0), 0);
        due("count(0)", x.count(0), 3);
        due("fault()", x.fault(), 3);
        due("count(1)", x.count(1), 4);
    }

    private static void dueNight(PlateLast x, int begin, int place, int had, int hands, int seen, long seed) {
        due("count(2)", x.count(2), begin);
        due("count(3)", x.count(3), place);
        due("count(4)", x.count(4), had);
        due("count(5)", x.count(5), hands);
        due("count(6)", x.count(6), seen);
        due("seed(..)", x.seed(seed), seed);
    }

    private static void fullSlots() {
        sentence = "30: thirty HANDS and eight that are SEEN are kept whole";
        PlateLast x = of("T3R5");
        for (int i = 1; i <= 30; i++) {
            x.hand(i % 3);
        }
        for (int t = 1; t <= 8; t++) {
            x.see(t, t % 3);
        }
        due("keep(1)", x.keep(1), 30);
        x.begin(1);
        x.unsee();
        // what is handed and seen meanwhile must not stand in what was kept
        for (int i = 1; i <= 30; i++) {
            x.hand((31 - i) * 2 % 3 == x.count(3) ? (x.count(3) + 1) % 3 : (31 - i) * 2 % 3);
        }
        for (int t = 1; t <= 8; t++) {
            x.see(9, 0);
        }
        due("again(1)", x.again(1), 30);
        due("ways(8)", x.ways(8), 1);
        due("ways(9)", x.ways(9), 2);
        for (int n = 1; n <= 7; n++) {
            due("ways(" + n + ")", x.ways(n), 1);
        }
        due("likeliest(8)", x.likeliest(8), 12012012);
        due("see(9, 0)", x.see(9, 0), -4);
        due("hand(1)", x.hand(1), -4);
        for (int left = 29; left >= 0; left--) {
            due("back()", x.back(), left);
            due("count(3)", x.count(3), left % 3);
        }
        due("back()", x.back(), -3);
    }

    private static void counts() {
        sentence = "31: 0 bytes of THE TEXT .. 7 the kind of THE TABLE (0 RING, 1 ROW, 2 H)";
        PlateLast x = of("T8W5", 6);
        x.hand(7);
        x.hand(6);
        x.hand(5);
        x.see(1, 1);
        x.see(9, 7);
        x.write(3, 0);
        int[] want = {7, 8, 6, 5, 224, 3, 2, 1};
        for (int what = 0; what <= 7; what++) {
            due("count(" + what + ")", x.count(what), want[what]);
        }
        due("count(8)", x.count(8), -2);
        due("count(-1)", x.count(-1), -2);
        due("count(7) of R", of("T8R0").count(7), 0);
        due("count(7) of W", of("T2W0").count(7), 1);
        due("count(7) of H", of("T8H010").count(7), 2);
        due("count(7) of none", of("T8").count(7), 2);
        sentence = "31: the kind of THE TABLE, not of THE TEXT";
        x = of("T3R5");
        put(x, "T3W5");
        due("count(7)", x.count(7), 0);
        due("count(1)", x.count(1), 3);
    }

    // ---- fractions

    private static void leastTerms() {
        sentence = "FRACTIONS: below 1 and more, in least terms";
        String[] texts = {"T2R5", "T4R5", "T5R3", "T8W4", "T3", "T4H015H025H104H136H200H302H318"};
        for (String text : texts) {
            PlateLast x = of(text);
            int seats = x.count(1);
            for (int n = 0; n <= 12; n += 3) {
                for (int seat = 0; seat < seats; seat++) {
                    dueLeast("at", x.at(n, seat, true), x.at(n, seat, false));
                    dueLeast("last", x.last(n, seat, true), x.last(n, seat, false));
                }
                dueLeast("all", x.all(n, true), x.all(n, false));
            }
            x = of(text);
            for (int seat = 0; seat < seats; seat++) {
                dueLeast("end", x.end(seat, true), x.end(seat, false));
                dueLeast("mean", x.mean(0, seat, true), x.mean(0, seat, false));
                dueLeast("round", x.round(1, seat, true), x.round(1, seat, false));
                dueLeast("meet", x.meet(0, seat, 8, true), x.meet(0, seat, 8, false));
                dueLeast("meet", x.meet(1, seat, 5, true), x.meet(1, seat, 5, false));
                dueLeast("likely", x.likely(1, seat, true), x.likely(1, seat, false));
                dueLeast("likely", x.likely(2, 10 + seat, true), x.likely(2, 10 + seat, false));
            }
        }
    }

    /** Either both are the same refusal or NONE, or they have no divisor alike but 1. */
    private static void dueLeast(String call, long above, long below) {
        if (above < 0 || below < 0) {
            due(call + " told likewise", above, below);
        } else {
            due(call + " " + above + "/" + below, BigInteger.valueOf(above).gcd(BigInteger.valueOf(below)).longValue(), 1);
            due(call + " below is 1 and more", below >= 1 ? 1 : 0, 1);
        }
    }
}
