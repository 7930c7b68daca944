/** Each promise of the document by answers worked out by hand: plain inputs, the edges, wrong inputs. */
public final class PromiseTest {
    private static int wrong = 0;
    private static int looked = 0;
    private static String promise = "";

    private static void due(String call, long got, long want) {
        looked++;
        if (got != want) {
            wrong++;
            System.out.println(promise + ": " + call + " answered " + got + ", due is " + want);
        }
    }

    private static void dueFraction(String call, long above, long below, long wantAbove, long wantBelow) {
        due(call + " above", above, wantAbove);
        due(call + " below", below, wantBelow);
    }

    private static void put(PlateLast x, String text) {
        x.wipe();
        for (int i = 0; i < text.length(); i++) {
            x.write(1, text.charAt(i));
        }
    }

    private static PlateLast of(String text) {
        PlateLast x = new PlateLast();
        put(x, text);
        due("table() of " + text, x.table(), text.charAt(1) - '0');
        return x;
    }

    private static void dueFault(String text, int want) {
        PlateLast x = new PlateLast();
        put(x, text);
        due("fault() of " + text, x.fault(), want);
        due("table() of " + text, x.table(), want == PlateLast.NONE ? text.charAt(1) - '0' : PlateLast.STATE);
        due("fault() of " + text + " again", x.fault(), want);
    }

    private static void dueCounts(PlateLast x, int... want) {
        for (int what = 0; what < want.length; what++) {
            due("count(" + what + ")", x.count(what), want[what]);
        }
    }

    public static void main(String[] args) {
        newObject();
        writeAndWipe();
        faults();
        faultsOfNets();
        tables();
        chancesOfTables();
        beginHandBack();
        handsFull();
        at();
        all();
        last();
        sit();
        end();
        mean();
        round();
        meet();
        penny();
        judgeAndLikely();
        seeAndUnsee();
        ways();
        likeliest();
        rule();
        seedAndEvening();
        longEvenings();
        uncle();
        slots();
        count();
        System.out.println(looked + " answers looked at, " + wrong + " wrong");
        if (wrong != 0) {
            System.exit(1);
        }
    }

    private static void newObject() {
        promise = "1 new";
        PlateLast x = new PlateLast();
        dueCounts(x, 0, 2, 0, 0, 1, 0, 0, 0);
        due("chance(0, 1)", x.chance(0, 1), 10);
        due("chance(1, 0)", x.chance(1, 0), 10);
        due("chance(0, 0)", x.chance(0, 0), 0);
        due("again(0)", x.again(0), -3);
        due("again(1)", x.again(1), -3);
        due("back()", x.back(), -3);
        due("unsee()", x.unsee(), 0);
        due("seed(5)", x.seed(5), 0);
        due("seed(0)", x.seed(0), 5);
        due("fault()", x.fault(), 0);
        due("table()", x.table(), -3);
        due("evening()", x.evening(), 11);
    }

    private static void writeAndWipe() {
        promise = "2 write, 3 wipe";
        PlateLast x = new PlateLast();
        due("wipe()", x.wipe(), 0);
        due("write(0, 84)", x.write(0, 84), -2);
        due("write(9, 84)", x.write(9, 84), -2);
        due("write(-1, 84)", x.write(-1, 84), -2);
        due("write(least, 84)", x.write(Integer.MIN_VALUE, 84), -2);
        due("write(most, 84)", x.write(Integer.MAX_VALUE, 84), -2);
        due("count(0)", x.count(0), 0);
        // of more bytes than asked only the lowest, the highest of these first
        due("write(2, ..T3)", x.write(2, 0x5858585858585433L), 2);
        due("fault()", x.fault(), -9);
        due("table()", x.table(), 3);
        due("wipe()", x.wipe(), 2);
        due("wipe()", x.wipe(), 0);
        due("count(1)", x.count(1), 3);
        due("write(8, -1)", x.write(8, -1L), 8);
        due("fault()", x.fault(), 0);
        x.wipe();
        due("write(1, 0x..54)", x.write(1, 0xFFFFFFFFFFFFFF54L), 1);
        due("fault()", x.fault(), 1);
        x.wipe();
        for (int i = 1; i <= 12; i++) {
            due("write(8, 0)", x.write(8, 0), 8 * i);
        }
        due("write(8, 0)", x.write(8, 0), -4);
        due("write(3, 0)", x.write(3, 0), -4);
        due("count(0)", x.count(0), 96);
        due("write(2, 0)", x.write(2, 0), 98);
        due("write(1, 0)", x.write(1, 0), -4);
        due("write(0, 0)", x.write(0, 0), -2);
        due("count(0)", x.count(0), 98);
        due("fault()", x.fault(), 0);
        due("wipe()", x.wipe(), 98);
        due("count(0)", x.count(0), 0);
    }

    private static void faults() {
        promise = "4 fault";
        dueFault("X", 0);
        dueFault("t2", 0);
        dueFault("T", 1);
        dueFault("T0", 1);
        dueFault("T1", 1);
        dueFault("T9", 1);
        dueFault("T:", 1);
        dueFault("T/", 1);
        dueFault("TT", 1);
        dueFault("T9R5", 1);
        for (char seats = '2'; seats <= '8'; seats++) {
            dueFault("T" + seats, -9);
            dueFault("T" + seats + "R", 3);
            dueFault("T" + seats + "W", 3);
            dueFault("T" + seats + "H", 3);
            dueFault("T" + seats + "R0", -9);
            dueFault("T" + seats + "W9", -9);
        }
        dueFault("T2X", 2);
        dueFault("T2h", 2);
        dueFault("T25", 2);
        dueFault("T2 R5", 2);
        dueFault("T2R:", 3);
        dueFault("T2R/", 3);
        dueFault("T2RR", 3);
        dueFault("T2WH", 3);
        dueFault("T2R55", 4);
        dueFault("T3W5H010", 4);
        dueFault("T2\u00c8", 2);
        dueFault("\u00d42", 0);
        dueFault("T\u00b2", 1);
    }

    private static void faultsOfNets() {
        promise = "4 fault";
        dueFault("T2H2", 3);
        dueFault("T2HH", 3);
        dueFault("T2H0", 4);
        dueFault("T2H00", 4);
        dueFault("T2H02", 4);
        dueFault("T2H01", 5);
        // with one other SEAT alone nothing but ten can get whole
        dueFault("T2H015", 5);
        dueFault("T2H01:", 5);
        dueFault("T2H010", -9);
        dueFault("T2H0101", 6);
        dueFault("T2H010H", 7);
        dueFault("T2H010H0", 7);
        dueFault("T2H010H1", 8);
        dueFault("T2H010H100", -9);
        // all SEATS are told from wholly
        dueFault("T2H010H100H", 10);
        dueFault("T2H100H", 7);
        dueFault("T2H100H0", 8);
        dueFault("T3H011", 6);
        dueFault("T3H015", 6);
        dueFault("T3H015H", 7);
        dueFault("T3H015H0", 8);
        dueFault("T3H015H01", 8);
        dueFault("T3H015H02", 9);
        dueFault("T3H015H020", 9);
        dueFault("T3H015H024", 9);
        dueFault("T3H015H025", -9);
        dueFault("T3H015H026", 9);
        dueFault("T3H015H120", 10);
        dueFault("T3H015H120H025", -9);
        dueFault("T3H015H120H025H2", 16);
        dueFault("T3H015H120H025H1", 15);
        dueFault("T3H015R5", 6);
        dueFault("T4H015H024", 10);
        dueFault("T4H015H024H032", 13);
        dueFault("T4H015H024H030", 13);
        dueFault("T4H015H024H031", -9);
        dueFault("T4H015H025", -9);
        dueFault("T4H015H026", 9);
        // a longer row of H than THE TEXT has room for: its length is set aside
        StringBuilder text = new StringBuilder("T8");
        for (int from = 0; from < 4; from++) {
            for (int to = 0; to < 8; to++) {
                if (to != from && text.length() < 98) {
                    text.append('H').append(from).append(to).append(to == 7 ? 4 : 1);
                }
            }
        }
        dueFault(text.toString(), 98);
    }

    private static void tables() {
        promise = "5 table";
        PlateLast x = of("T4R3");
        due("begin(2)", x.begin(2), 0);
        due("hand(3)", x.hand(3), 12);
        due("see(4, 1)", x.see(4, 1), 1);
        due("seed(99)", x.seed(99), 0);
        due("keep(0)", x.keep(0), 1);
        due("keep(1)", x.keep(1), 1);
        put(x, "T9");
        due("table()", x.table(), -3);
        dueCounts(x, 2, 4, 2, 3, 12, 1, 1, 0);
        due("again(0)", x.again(0), 1);
        put(x, "T5W3");
        dueCounts(x, 4, 4, 2, 3, 12, 1, 1, 0);
        due("table()", x.table(), 5);
        dueCounts(x, 4, 5, 0, 0, 1, 0, 0, 1);
        due("again(0)", x.again(0), -3);
        due("again(1)", x.again(1), -3);
        due("back()", x.back(), -3);
        due("seed(0)", x.seed(0), 99);
        // the same TEXT once more makes it anew too
        x.begin(4);
        x.keep(1);
        due("table()", x.table(), 5);
        due("count(2)", x.count(2), 0);
        due("again(1)", x.again(1), -3);
        // of the table before nothing is left
        x = of("T8");
        put(x, "T3R4");
        x.table();
        dueChances(x, new int[][] {{0, 4, 6}, {6, 0, 4}, {4, 6, 0}});
        put(x, "T2");
        x.table();
        dueChances(x, new int[][] {{10, 0}, {0, 10}});
    }

    private static void dueChances(PlateLast x, int[][] want) {
        for (int from = 0; from < want.length; from++) {
            for (int to = 0; to < want.length; to++) {
                due("chance(" + from + ", " + to + ")", x.chance(from, to), want[from][to]);
            }
        }
    }

    private static void chancesOfTables() {
        promise = "6 chance";
        dueChances(of("T2R3"), new int[][] {{0, 10}, {10, 0}});
        dueChances(of("T2R0"), new int[][] {{0, 10}, {10, 0}});
        dueChances(of("T2W3"), new int[][] {{0, 10}, {10, 0}});
        dueChances(of("T3R7"), new int[][] {{0, 7, 3}, {3, 0, 7}, {7, 3, 0}});
        dueChances(of("T3R0"), new int[][] {{0, 0, 10}, {10, 0, 0}, {0, 10, 0}});
        dueChances(of("T3W0"), new int[][] {{0, 10, 0}, {10, 0, 0}, {0, 10, 0}});
        dueChances(of("T4W2"), new int[][] {{0, 10, 0, 0}, {8, 0, 2, 0}, {0, 8, 0, 2}, {0, 0, 10, 0}});
        dueChances(of("T2"), new int[][] {{10, 0}, {0, 10}});
        dueChances(of("T3H018H022H100"), new int[][] {{0, 8, 2}, {10, 0, 0}, {0, 0, 10}});
        PlateLast x = of("T3R7");
        due("chance(3, 0)", x.chance(3, 0), -1);
        due("chance(0, 3)", x.chance(0, 3), -1);
        due("chance(-1, 0)", x.chance(-1, 0), -1);
        due("chance(0, -1)", x.chance(0, -1), -1);
        due("chance(least, most)", x.chance(Integer.MIN_VALUE, Integer.MAX_VALUE), -1);
    }

    private static void beginHandBack() {
        promise = "7 begin, 8 hand, 9 back";
        PlateLast x = of("T4R5");
        due("hand(4)", x.hand(4), -1);
        due("hand(-1)", x.hand(-1), -1);
        due("hand(0)", x.hand(0), -3);
        due("hand(2)", x.hand(2), -3);
        due("back()", x.back(), -3);
        due("hand(3)", x.hand(3), 9);
        due("hand(0)", x.hand(0), 9);
        due("hand(1)", x.hand(1), 11);
        dueCounts(x, 4, 4, 0, 1, 11, 3, 0, 0);
        due("back()", x.back(), 2);
        dueCounts(x, 4, 4, 0, 0, 9, 2, 0, 0);
        due("back()", x.back(), 1);
        dueCounts(x, 4, 4, 0, 3, 9, 1, 0, 0);
        due("begin(4)", x.begin(4), -1);
        due("begin(-1)", x.begin(-1), -1);
        dueCounts(x, 4, 4, 0, 3, 9, 1, 0, 0);
        x.see(2, 2);
        due("begin(2)", x.begin(2), 0);
        dueCounts(x, 4, 4, 2, 2, 4, 0, 1, 0);
        due("back()", x.back(), -3);
        due("begin(2)", x.begin(2), 2);
        due("hand(1)", x.hand(1), 6);
        due("back()", x.back(), 0);
        dueCounts(x, 4, 4, 2, 2, 4, 0, 1, 0);
        // no chance one way, and a SEAT where it stays
        x = of("T3R0");
        due("hand(1)", x.hand(1), -3);
        due("hand(2)", x.hand(2), 5);
        x = of("T3H010");
        due("hand(0)", x.hand(0), -3);
        due("hand(1)", x.hand(1), 3);
        due("hand(0)", x.hand(0), -3);
        due("hand(1)", x.hand(1), 3);
        due("count(5)", x.count(5), 2);
        due("back()", x.back(), 1);
        due("back()", x.back(), 0);
        due("count(4)", x.count(4), 1);
    }

    private static void handsFull() {
        promise = "8 hand";
        PlateLast x = new PlateLast();
        for (int i = 1; i <= 30; i++) {
            due("hand " + i, x.hand(i % 2), 3);
        }
        due("hand(1)", x.hand(1), -4);
        due("hand(0)", x.hand(0), -3);
        due("hand(2)", x.hand(2), -1);
        dueCounts(x, 0, 2, 0, 0, 3, 30, 0, 0);
        due("back()", x.back(), 29);
        due("count(3)", x.count(3), 1);
        due("hand(0)", x.hand(0), 3);
        due("hand(1)", x.hand(1), -4);
        for (int left = 29; left >= 0; left--) {
            due("back()", x.back(), left);
        }
        due("back()", x.back(), -3);
        due("count(4)", x.count(4), 1);
    }

    private static void at() {
        promise = "10 at";
        PlateLast x = of("T3R7");
        dueFraction("at(0, 0)", x.at(0, 0, true), x.at(0, 0, false), 1, 1);
        dueFraction("at(0, 1)", x.at(0, 1, true), x.at(0, 1, false), 0, 1);
        dueFraction("at(1, 1)", x.at(1, 1, true), x.at(1, 1, false), 7, 10);
        dueFraction("at(1, 2)", x.at(1, 2, true), x.at(1, 2, false), 3, 10);
        dueFraction("at(2, 0)", x.at(2, 0, true), x.at(2, 0, false), 21, 50);
        dueFraction("at(2, 2)", x.at(2, 2, true), x.at(2, 2, false), 49, 100);
        x.hand(2);
        dueFraction("at(1, 0) from 2", x.at(1, 0, true), x.at(1, 0, false), 7, 10);
        dueFraction("at(0, 2) from 2", x.at(0, 2, true), x.at(0, 2, false), 1, 1);
        due("at(13, 0)", x.at(13, 0, true), -2);
        due("at(13, 0)", x.at(13, 0, false), -2);
        due("at(-1, 0)", x.at(-1, 0, true), -2);
        due("at(0, 3)", x.at(0, 3, false), -1);
        due("at(-1, -1)", x.at(-1, -1, true), -1);
        due("at(13, 3)", x.at(13, 3, true), -1);
        x = new PlateLast();
        dueFraction("at(12, 0)", x.at(12, 0, true), x.at(12, 0, false), 1, 1);
        dueFraction("at(11, 0)", x.at(11, 0, true), x.at(11, 0, false), 0, 1);
        x = of("T3H019H021");
        dueFraction("at(12, 2)", x.at(12, 2, true), x.at(12, 2, false), 1, 10);
        x = of("T3H019H021H100H200");
        dueFraction("at(11, 2)", x.at(11, 2, true), x.at(11, 2, false), 1, 10);
    }

    private static void all() {
        promise = "11 all";
        PlateLast x = of("T3R7");
        dueFraction("all(0)", x.all(0, true), x.all(0, false), 0, 1);
        dueFraction("all(1)", x.all(1, true), x.all(1, false), 0, 1);
        // 0 1 2 and 0 2 1
        dueFraction("all(2)", x.all(2, true), x.all(2, false), 29, 50);
        x.hand(1);
        dueFraction("all(1) from 1", x.all(1, true), x.all(1, false), 7, 10);
        dueFraction("all(2) from 1", x.all(2, true), x.all(2, false), 79, 100);
        x.hand(2);
        dueFraction("all(0) of all", x.all(0, true), x.all(0, false), 1, 1);
        dueFraction("all(12) of all", x.all(12, true), x.all(12, false), 1, 1);
        due("all(13)", x.all(13, true), -2);
        due("all(-1)", x.all(-1, false), -2);
        x.begin(1);
        dueFraction("all(2) begun at 1", x.all(2, true), x.all(2, false), 29, 50);
        x = of("T3H010");
        dueFraction("all(12) where it stays", x.all(12, true), x.all(12, false), 0, 1);
        x = of("T8R1");
        // 1 - .. far round: 9 and 1 to the seventh, one way or the other
        dueFraction("all(7)", x.all(7, true), x.all(7, false), 478297, 1000000);
    }

    private static void last() {
        promise = "12 last";
        PlateLast x = of("T3R7");
        dueFraction("last(2, 2)", x.last(2, 2, true), x.last(2, 2, false), 49, 100);
        dueFraction("last(2, 1)", x.last(2, 1, true), x.last(2, 1, false), 9, 100);
        dueFraction("last(2, 0)", x.last(2, 0, true), x.last(2, 0, false), 0, 1);
        dueFraction("last(0, 1)", x.last(0, 1, true), x.last(0, 1, false), 0, 1);
        // 0 1 2 or 0 1 0 2
        dueFraction("last(3, 2)", x.last(3, 2, true), x.last(3, 2, false), 553, 1000);
        x.hand(1);
        dueFraction("last(1, 2) from 1", x.last(1, 2, true), x.last(1, 2, false), 7, 10);
        dueFraction("last(12, 1) that had it", x.last(12, 1, true), x.last(12, 1, false), 0, 1);
        x.hand(2);
        for (int seat = 0; seat < 3; seat++) {
            dueFraction("last of all", x.last(12, seat, true), x.last(12, seat, false), 0, 1);
            dueFraction("last of all", x.last(0, seat, true), x.last(0, seat, false), 0, 1);
        }
        due("last(13, 0)", x.last(13, 0, true), -2);
        due("last(-1, 0)", x.last(-1, 0, false), -2);
        due("last(13, 3)", x.last(13, 3, true), -1);
        due("last(0, -1)", x.last(0, -1, true), -1);
    }

    private static void sit() {
        promise = "13 sit";
        PlateLast x = of("T3R7");
        due("sit(0)", x.sit(0), 1);
        due("sit(2)", x.sit(2), 1);
        due("sit(12)", x.sit(12), 1);
        due("sit(13)", x.sit(13), -2);
        due("sit(-1)", x.sit(-1), -2);
        // as an evening from BEGIN, wherever the plate is by now
        x.hand(1);
        x.hand(2);
        due("sit(12)", x.sit(12), 1);
        x.begin(1);
        due("sit(0)", x.sit(0), 0);
        due("sit(2)", x.sit(2), 2);
        x = of("T3R3");
        due("sit(2)", x.sit(2), 2);
        due("sit(1)", x.sit(1), 1);
        x.hand(2);
        due("sit(2) from BEGIN still", x.sit(2), 2);
        x = new PlateLast();
        due("sit(12)", x.sit(12), 1);
        x.begin(1);
        due("sit(12)", x.sit(12), 0);
        x = of("T4");
        due("sit(12)", x.sit(12), 1);
        x = of("T5R5");
        due("sit(4)", x.sit(4), 2);
    }

    private static void end() {
        promise = "14 end";
        PlateLast x = of("T3R7");
        dueFraction("end(0)", x.end(0, true), x.end(0, false), 0, 1);
        dueFraction("end(1)", x.end(1, true), x.end(1, false), 3, 10);
        dueFraction("end(2)", x.end(2, true), x.end(2, false), 7, 10);
        x.hand(1);
        x.hand(2);
        dueFraction("end(2) wherever it is", x.end(2, true), x.end(2, false), 7, 10);
        x.begin(2);
        dueFraction("end(2) from 2", x.end(2, true), x.end(2, false), 0, 1);
        dueFraction("end(0) from 2", x.end(0, true), x.end(0, false), 3, 10);
        dueFraction("end(1) from 2", x.end(1, true), x.end(1, false), 7, 10);
        due("end(3)", x.end(3, true), -1);
        due("end(-1)", x.end(-1, false), -1);
        x = of("T4R9");
        dueFraction("end(1)", x.end(1, true), x.end(1, false), 1, 91);
        dueFraction("end(2)", x.end(2, true), x.end(2, false), 9, 91);
        dueFraction("end(3)", x.end(3, true), x.end(3, false), 81, 91);
        x = of("T6R5");
        dueFraction("end(3)", x.end(3, true), x.end(3, false), 1, 5);
        x = of("T8R1");
        dueFraction("end(1)", x.end(1, true), x.end(1, false), 531441, 597871);
        String[] noSuch = {"T2R5", "T3R0", "T3W5", "T3", "T3H015H025H105H125H205H215"};
        for (String text : noSuch) {
            x = of(text);
            due("end(1) of " + text, x.end(1, true), -3);
            due("end(0) of " + text, x.end(0, false), -3);
            due("end(8) of " + text, x.end(8, true), -1);
        }
        due("end(1) of a new one", new PlateLast().end(1, true), -3);
    }

    private static void mean() {
        promise = "15 mean";
        PlateLast x = of("T8R5");
        for (int to = 1; to < 8; to++) {
            dueFraction("mean(0, " + to + ")", x.mean(0, to, true), x.mean(0, to, false), to * (8 - to), 1);
        }
        x.hand(1);
        dueFraction("mean(3, 3)", x.mean(3, 3, true), x.mean(3, 3, false), 0, 1);
        due("mean(0, 8)", x.mean(0, 8, true), -1);
        due("mean(8, 0)", x.mean(8, 0, false), -1);
        due("mean(-1, -1)", x.mean(-1, -1, true), -1);
        x = of("T3R7");
        // m1 = 1 + .3 m2', m2' = 1 + .7 m1
        dueFraction("mean(0, 1)", x.mean(0, 1, true), x.mean(0, 1, false), 130, 79);
        dueFraction("mean(0, 2)", x.mean(0, 2, true), x.mean(0, 2, false), 170, 79);
        x = of("T3H018H022H100");
        dueFraction("mean(0, 2)", x.mean(0, 2, true), x.mean(0, 2, false), 9, 1);
        due("mean(0, 1)", x.mean(0, 1, true), -9);
        due("mean(0, 1)", x.mean(0, 1, false), -9);
        due("mean(2, 0)", x.mean(2, 0, true), -9);
        dueFraction("mean(1, 0)", x.mean(1, 0, true), x.mean(1, 0, false), 1, 1);
        dueFraction("mean(2, 2) where it stays", x.mean(2, 2, true), x.mean(2, 2, false), 0, 1);
        // what lies behind the told one does not count
        x = of("T4H010H120");
        dueFraction("mean(0, 1)", x.mean(0, 1, true), x.mean(0, 1, false), 1, 1);
        dueFraction("mean(0, 2)", x.mean(0, 2, true), x.mean(0, 2, false), 2, 1);
        due("mean(0, 3)", x.mean(0, 3, true), -9);
        // two that hand it to each other for ever
        x = of("T4H010H100H230H320");
        due("mean(0, 2)", x.mean(0, 2, true), -9);
        dueFraction("mean(2, 3)", x.mean(2, 3, true), x.mean(2, 3, false), 1, 1);
        // 1 from 0 to 1, and on to each next one ten and nine times what it took to come there
        x = of("T8W1");
        dueFraction("mean(0, 7)", x.mean(0, 7, true), x.mean(0, 7, false), 1345201, 1);
        x = of("T8R0");
        dueFraction("mean(0, 1)", x.mean(0, 1, true), x.mean(0, 1, false), 7, 1);
    }

    private static void round() {
        promise = "16 round";
        PlateLast x = of("T3R7");
        dueFraction("round(0, 1)", x.round(0, 1, true), x.round(0, 1, false), 300, 79);
        dueFraction("round(1, 0)", x.round(1, 0, true), x.round(1, 0, false), 300, 79);
        dueFraction("round(1, 1)", x.round(1, 1, true), x.round(1, 1, false), 0, 1);
        due("round(0, 3)", x.round(0, 3, true), -1);
        due("round(3, 0)", x.round(3, 0, false), -1);
        x = of("T3H018H022H100");
        due("round(0, 2)", x.round(0, 2, true), -9);
        due("round(2, 0)", x.round(2, 0, false), -9);
        dueFraction("round(2, 2)", x.round(2, 2, true), x.round(2, 2, false), 0, 1);
        x = of("T8W1");
        dueFraction("round(7, 0)", x.round(7, 0, true), x.round(7, 0, false), x.mean(0, 7, true)
            * x.mean(7, 0, false) + x.mean(7, 0, true), x.mean(7, 0, false));
    }

    private static void meet() {
        promise = "17 meet";
        PlateLast x = of("T3R7");
        dueFraction("meet(1, 1, 0)", x.meet(1, 1, 0, true), x.meet(1, 1, 0, false), 1, 1);
        dueFraction("meet(1, 1, 8)", x.meet(1, 1, 8, true), x.meet(1, 1, 8, false), 1, 1);
        dueFraction("meet(0, 1, 0)", x.meet(0, 1, 0, true), x.meet(0, 1, 0, false), 0, 1);
        // 0 goes ahead to 2 and 1 on to 2
        dueFraction("meet(0, 1, 1)", x.meet(0, 1, 1, true), x.meet(0, 1, 1, false), 21, 100);
        dueFraction("meet(0, 1, 2)", x.meet(0, 1, 2, true), x.meet(0, 1, 2, false), 3759, 10000);
        x.hand(1);
        dueFraction("meet(0, 1, 1)", x.meet(0, 1, 1, true), x.meet(0, 1, 1, false), 21, 100);
        due("meet(0, 1, 9)", x.meet(0, 1, 9, true), -2);
        due("meet(0, 1, -1)", x.meet(0, 1, -1, false), -2);
        due("meet(0, 3, 9)", x.meet(0, 3, 9, true), -1);
        due("meet(3, 0, 1)", x.meet(3, 0, 1, true), -1);
        due("meet(-1, -1, 1)", x.meet(-1, -1, 1, true), -1);
        x = new PlateLast();
        dueFraction("meet(0, 1, 8)", x.meet(0, 1, 8, true), x.meet(0, 1, 8, false), 0, 1);
        // one that stays is come to
        x = of("T3H019H021H100");
        dueFraction("meet(0, 2, 1)", x.meet(0, 2, 1, true), x.meet(0, 2, 1, false), 1, 10);
        dueFraction("meet(0, 2, 8)", x.meet(0, 2, 8, true), x.meet(0, 2, 8, false), 3439, 10000);
        dueFraction("meet(0, 1, 8) in T2", of("T2").meet(0, 1, 8, true), of("T2").meet(0, 1, 8, false), 0, 1);
    }

    private static void penny() {
        promise = "18 penny";
        PlateLast x = new PlateLast();
        for (int bent = 1; bent <= 9; bent++) {
            dueFraction("penny(.., 0, 0)", x.penny(bent, 0, 0, true), x.penny(bent, 0, 0, false), 1, 9);
        }
        dueFraction("penny(1, 1, 0)", x.penny(1, 1, 0, true), x.penny(1, 1, 0, false), 1, 45);
        dueFraction("penny(9, 1, 0)", x.penny(9, 1, 0, true), x.penny(9, 1, 0, false), 1, 5);
        dueFraction("penny(9, 0, 1)", x.penny(9, 0, 1, true), x.penny(9, 0, 1, false), 1, 45);
        // 9 + 16 + 21 + 24 + 25 + 24 + 21 + 16 + 9 = 165
        dueFraction("penny(5, 1, 1)", x.penny(5, 1, 1, true), x.penny(5, 1, 1, false), 5, 33);
        dueFraction("penny(3, 1, 1)", x.penny(3, 1, 1, true), x.penny(3, 1, 1, false), 7, 55);
        due("penny(0, 1, 1)", x.penny(0, 1, 1, true), -2);
        due("penny(10, 1, 1)", x.penny(10, 1, 1, false), -2);
        due("penny(5, 9, 1)", x.penny(5, 9, 1, true), -2);
        due("penny(5, -1, 1)", x.penny(5, -1, 1, true), -2);
        due("penny(5, 1, 9)", x.penny(5, 1, 9, true), -2);
        due("penny(5, 1, -1)", x.penny(5, 1, -1, true), -2);
    }

    private static void judgeAndLikely() {
        promise = "19 judge, 20 likely";
        PlateLast x = of("T4R7");
        due("judge(3, 123)", x.judge(3, 123), -9);
        dueFraction("likely(3, 123)", x.likely(3, 123, true), x.likely(3, 123, false), 343, 1000);
        due("judge(3, 103)", x.judge(3, 103), -9);
        dueFraction("likely(3, 103)", x.likely(3, 103, true), x.likely(3, 103, false), 63, 1000);
        due("judge(3, 223)", x.judge(3, 223), 0);
        dueFraction("likely(3, 223)", x.likely(3, 223, true), x.likely(3, 223, false), 0, 1);
        due("judge(3, 133)", x.judge(3, 133), 1);
        due("judge(3, 122)", x.judge(3, 122), 2);
        dueFraction("likely(3, 122)", x.likely(3, 122, true), x.likely(3, 122, false), 0, 1);
        // figures that are no SEATS can not be either
        due("judge(2, 19)", x.judge(2, 19), 1);
        due("judge(2, 41)", x.judge(2, 41), 0);
        dueFraction("likely(2, 14)", x.likely(2, 14, true), x.likely(2, 14, false), 0, 1);
        // 0 ahead of the others
        due("judge(2, 10)", x.judge(2, 10), -9);
        due("judge(2, 1)", x.judge(2, 1), 0);
        due("judge(1, 0)", x.judge(1, 0), 0);
        x.begin(3);
        due("judge(2, 1) from 3", x.judge(2, 1), -9);
        dueFraction("likely(2, 1) from 3", x.likely(2, 1, true), x.likely(2, 1, false), 49, 100);
        due("judge(9, 12301230) from 3", x.judge(9, 12301230), -9);
        x.hand(0);
        due("judge(2, 1) from 3 still", x.judge(2, 1), -9);
        due("judge(0, 0)", x.judge(0, 0), -2);
        due("judge(10, 0)", x.judge(10, 0), -2);
        due("judge(-1, 0)", x.judge(-1, 0), -2);
        due("judge(2, 100)", x.judge(2, 100), -2);
        due("judge(2, 99)", x.judge(2, 99), 0);
        due("judge(2, -1)", x.judge(2, -1), -2);
        due("judge(9, 999999999)", x.judge(9, 999999999), 0);
        due("judge(9, 1000000000)", x.judge(9, 1000000000), -2);
        due("judge(9, most)", x.judge(9, Integer.MAX_VALUE), -2);
        due("likely(0, 0)", x.likely(0, 0, true), -2);
        due("likely(10, 0)", x.likely(10, 0, false), -2);
        due("likely(1, 10)", x.likely(1, 10, true), -2);
        due("likely(1, -1)", x.likely(1, -1, false), -2);
        x = of("T2");
        due("judge(9, 0)", x.judge(9, 0), -9);
        dueFraction("likely(9, 0)", x.likely(9, 0, true), x.likely(9, 0, false), 1, 1);
        due("judge(9, 1)", x.judge(9, 1), 8);
    }

    private static void seeAndUnsee() {
        promise = "21 see, 22 unsee";
        PlateLast x = of("T4R7");
        due("unsee()", x.unsee(), 0);
        due("see(0, 0)", x.see(0, 0), -2);
        due("see(10, 0)", x.see(10, 0), -2);
        due("see(-1, 4)", x.see(-1, 4), -1);
        due("see(1, -1)", x.see(1, -1), -1);
        due("count(6)", x.count(6), 0);
        for (int i = 1; i <= 8; i++) {
            due("see " + i, x.see(i, i % 4), i);
        }
        due("see(9, 1)", x.see(9, 1), -4);
        due("see(10, 1)", x.see(10, 1), -2);
        due("see(10, 4)", x.see(10, 4), -1);
        due("count(6)", x.count(6), 8);
        due("ways(8)", x.ways(8), 1);
        due("unsee()", x.unsee(), 8);
        due("unsee()", x.unsee(), 0);
        due("ways(8)", x.ways(8), 256);
        due("see(9, 1)", x.see(9, 1), 1);
    }

    private static void ways() {
        promise = "23 ways";
        PlateLast x = of("T4R7");
        due("ways(0)", x.ways(0), -2);
        due("ways(10)", x.ways(10), -2);
        due("ways(1)", x.ways(1), 2);
        due("ways(9)", x.ways(9), 512);
        x.see(2, 0);
        due("ways(1)", x.ways(1), 2);
        due("ways(2)", x.ways(2), 2);
        due("ways(3)", x.ways(3), 4);
        x.see(2, 2);
        due("ways(1)", x.ways(1), 2);
        due("ways(2)", x.ways(2), 0);
        x.unsee();
        x.see(1, 1);
        x.see(1, 1);
        due("ways(1)", x.ways(1), 1);
        x.hand(3);
        due("ways(2) from BEGIN", x.ways(2), 2);
        x.begin(2);
        due("ways(2) from 2", x.ways(2), 2);
        x.begin(1);
        due("ways(2) from 1", x.ways(2), 0);
        x = of("T3H018H022H100");
        due("ways(1)", x.ways(1), 2);
        due("ways(2)", x.ways(2), 2);
        due("ways(3)", x.ways(3), 3);
        due("ways(9) of T2", of("T2").ways(9), 1);
        due("ways(9) by a tenth", of("T3R1").ways(9), 512);
        x = of("T4H014H023H033H104H123H133H204H213H233H304H313H323");
        due("ways(9)", x.ways(9), 19683);
    }

    private static void likeliest() {
        promise = "24 likeliest";
        PlateLast x = of("T4R7");
        due("likeliest(0)", x.likeliest(0), -2);
        due("likeliest(10)", x.likeliest(10), -2);
        due("likeliest(1)", x.likeliest(1), 1);
        due("likeliest(9)", x.likeliest(9), 123012301);
        x.see(2, 0);
        due("likeliest(1)", x.likeliest(1), 1);
        due("likeliest(2)", x.likeliest(2), 10);
        x.see(1, 3);
        due("likeliest(2)", x.likeliest(2), 30);
        due("likeliest(3)", x.likeliest(3), 301);
        x.see(2, 1);
        due("likeliest(2)", x.likeliest(2), -9);
        due("likeliest(1)", x.likeliest(1), 3);
        x.unsee();
        x.see(1, 1);
        x.hand(1);
        due("likeliest(1) from BEGIN", x.likeliest(1), 1);
        x.unsee();
        x.begin(3);
        due("likeliest(2) from 3", x.likeliest(2), 1);
        x.hand(2);
        due("likeliest(2) from 3 still", x.likeliest(2), 1);
        x = of("T4R5");
        due("likeliest(9) of like ones", x.likeliest(9), 101010101);
        // the first step by 6 leads to 5 and 5, that by 4 to ten: not step by step
        x = of("T5H016H024H135H145H230");
        due("likeliest(1)", x.likeliest(1), 1);
        due("likeliest(2)", x.likeliest(2), 23);
        x = of("T5H015H025H135H145H235H245");
        x.see(2, 4);
        due("likeliest(3)", x.likeliest(3), 144);
        due("likeliest(9) of T2", of("T2").likeliest(9), 0);
    }

    private static void rule() {
        promise = "25 rule";
        due("rule()", new PlateLast().rule(), 1);
        due("rule() of T8R5", of("T8R5").rule(), 7);
        due("rule() of T8W5", of("T8W5").rule(), 7);
        due("rule() of T5R0", of("T5R0").rule(), 4);
        due("rule() of T2", of("T2").rule(), -9);
        due("rule() of T3H010", of("T3H010").rule(), -9);
        due("rule() of T4H010H100", of("T4H010H100").rule(), -9);
        // by chances of one tenth as by nine
        due("rule() of T3H019H021H100", of("T3H019H021H100").rule(), 3);
        PlateLast x = of("T3W5");
        x.begin(1);
        // 1 0 1 2
        due("rule() from 1", x.rule(), 3);
        x.hand(2);
        due("rule() from 1 still", x.rule(), 3);
        due("count(5)", x.count(5), 1);
        x = of("T5W4");
        x.begin(2);
        due("rule() from 2", x.rule(), 8);
        x.begin(4);
        due("rule() from 4", x.rule(), 4);
    }

    private static void seedAndEvening() {
        promise = "26 seed, 27 evening";
        PlateLast x = of("T3R5");
        due("seed(least)", x.seed(Long.MIN_VALUE), 0);
        due("seed(0)", x.seed(0), Long.MIN_VALUE);
        x.hand(2);
        x.see(1, 1);
        int told = x.evening();
        due("evening()", told, evening(new int[][] {{0, 5, 5}, {5, 0, 5}, {5, 5, 0}}, 0));
        dueCounts(x, 4, 3, 0, 2, 5, 1, 1, 0);
        due("seed(0) behind it", x.seed(0), seedBehind);
        due("evening() by the same seed", x.evening(), told);
        // from BEGIN
        x.begin(1);
        x.seed(-77);
        due("evening() from 1", x.evening(), evening(new int[][] {{0, 5, 5}, {5, 0, 5}, {5, 5, 0}}, 1, -77));
        due("seed(1)", x.seed(1), seedBehind);
        // where it stays nothing is drawn
        x = of("T3H010");
        x.seed(41);
        due("evening() where it stays", x.evening(), -9);
        due("seed(0)", x.seed(0), 41 * 6364136223846793005L + 1442695040888963407L);
        x = of("T2");
        x.seed(42);
        due("evening() of T2", x.evening(), -9);
        due("seed(0)", x.seed(0), 42);
        // 200 draws, not one more
        x = of("T3H010H100");
        x.seed(43);
        due("evening() of two alone", x.evening(), -9);
        long seed = 43;
        for (int i = 0; i < 200; i++) {
            seed = seed * 6364136223846793005L + 1442695040888963407L;
        }
        due("seed(0) behind 200", x.seed(0), seed);
        // one tenth and nine, in the order of SEATS
        x = of("T4H011H022H037H100H200H300");
        int[][] net = {{0, 1, 2, 7}, {10, 0, 0, 0}, {10, 0, 0, 0}, {10, 0, 0, 0}};
        for (int i = 0; i < 20; i++) {
            x.seed(i);
            due("evening() by " + i, x.evening(), evening(net, 0, i));
        }
        // far round by one tenth: some evenings take over 200 HANDS
        x = of("T8W1");
        int[][] line = new int[8][8];
        for (int seat = 1; seat < 7; seat++) {
            line[seat][seat + 1] = 1;
            line[seat][seat - 1] = 9;
        }
        line[0][1] = 10;
        line[7][6] = 10;
        for (int start = 0; start < 8; start++) {
            x.begin(start);
            x.seed(start);
            due("evening() of a row from " + start, x.evening(), evening(line, start, start));
            due("seed(0)", x.seed(0), seedBehind);
        }
    }

    private static void longEvenings() {
        promise = "27 evening";
        PlateLast x = of("T8W4");
        x.begin(1);
        x.seed(294);
        due("evening() by 200 HANDS", x.evening(), 2007);
        x.begin(0);
        x.seed(962);
        due("evening() by 201 HANDS", x.evening(), -9);
    }

    private static long seedBehind;

    private static int evening(int[][] net, int start) {
        return evening(net, start, 0);
    }

    private static int evening(int[][] net, int start, long seed) {
        boolean[] had = new boolean[net.length];
        had[start] = true;
        int missing = net.length - 1;
        int place = start;
        seedBehind = seed;
        for (int hands = 1; hands <= 200; hands++) {
            seedBehind = seedBehind * 6364136223846793005L + 1442695040888963407L;
            long tenth = (seedBehind >>> 33) % 10;
            int to = 0;
            long below = net[place][0];
            while (tenth >= below) {
                to++;
                below += net[place][to];
            }
            place = to;
            if (!had[place]) {
                had[place] = true;
                missing--;
            }
            if (missing == 0) {
                return 10 * hands + place;
            }
        }
        return -9;
    }

    private static void uncle() {
        promise = "28 uncle";
        PlateLast x = of("T4R6");
        due("uncle(0, 1)", x.uncle(0, 1), -2);
        due("uncle(31, 1)", x.uncle(31, 1), -2);
        due("uncle(-1, 4)", x.uncle(-1, 4), -1);
        due("uncle(1, -1)", x.uncle(1, -1), -1);
        due("seed(5)", x.seed(5), 0);
        int[] times = new int[4];
        for (int i = 0; i < 30; i++) {
            times[x.evening() % 10]++;
        }
        long behind = x.seed(5);
        int sum = 0;
        for (int seat = 0; seat < 4; seat++) {
            due("uncle(30, " + seat + ")", x.uncle(30, seat), times[seat]);
            due("seed(5)", x.seed(5), behind);
            sum += times[seat];
        }
        due("all of them", sum, 30);
        due("uncle(30, 0) that begins", times[0], 0);
        due("uncle(1, 1)", x.uncle(1, 1), firstLastIs(1) ? 1 : 0);
        // an evening that does not end has no last one
        x = of("T3H010");
        for (int seat = 0; seat < 3; seat++) {
            due("uncle(30, " + seat + ")", x.uncle(30, seat), 0);
        }
    }

    private static boolean firstLastIs(int seat) {
        PlateLast x = of("T4R6");
        x.seed(5);
        return x.evening() % 10 == seat;
    }

    private static void slots() {
        promise = "29 keep, 30 again";
        PlateLast x = of("T4R7");
        due("keep(2)", x.keep(2), -1);
        due("keep(-1)", x.keep(-1), -1);
        due("again(2)", x.again(2), -1);
        due("again(-1)", x.again(-1), -1);
        due("again(0)", x.again(0), -3);
        x.begin(1);
        x.hand(2);
        x.hand(3);
        x.see(1, 2);
        x.see(2, 3);
        x.seed(17);
        due("keep(0)", x.keep(0), 2);
        due("again(1)", x.again(1), -3);
        x.back();
        x.hand(1);
        x.hand(0);
        x.hand(1);
        x.unsee();
        x.see(1, 0);
        due("seed(18)", x.seed(18), 17);
        due("keep(1)", x.keep(1), 4);
        x.begin(3);
        due("again(0)", x.again(0), 2);
        dueCounts(x, 4, 4, 1, 3, 14, 2, 2, 0);
        due("seed(0)", x.seed(0), 17);
        due("ways(2)", x.ways(2), 1);
        due("back()", x.back(), 1);
        due("count(3)", x.count(3), 2);
        due("hand(1)", x.hand(1), 6);
        // what is changed behind it does not change what is kept
        due("again(0)", x.again(0), 2);
        dueCounts(x, 4, 4, 1, 3, 14, 2, 2, 0);
        due("back()", x.back(), 1);
        due("count(3)", x.count(3), 2);
        due("again(1)", x.again(1), 4);
        dueCounts(x, 4, 4, 1, 1, 7, 4, 1, 0);
        due("seed(0)", x.seed(0), 18);
        for (int left = 3; left >= 0; left--) {
            due("back()", x.back(), left);
        }
        due("count(3)", x.count(3), 1);
        // what comes between is written over, place by place
        x.begin(1);
        x.hand(2);
        x.hand(3);
        x.hand(2);
        x.unsee();
        x.see(1, 2);
        x.see(3, 2);
        x.keep(0);
        x.begin(0);
        x.hand(3);
        x.hand(0);
        x.hand(1);
        x.unsee();
        x.see(2, 0);
        x.see(1, 1);
        x.keep(1);
        due("again(0)", x.again(0), 3);
        due("ways(3)", x.ways(3), 2);
        due("ways(1)", x.ways(1), 1);
        due("back()", x.back(), 2);
        due("count(3)", x.count(3), 3);
        due("back()", x.back(), 1);
        due("count(3)", x.count(3), 2);
        due("again(1)", x.again(1), 3);
        due("likeliest(2)", x.likeliest(2), 10);
        due("back()", x.back(), 2);
        due("count(3)", x.count(3), 0);
        due("back()", x.back(), 1);
        due("count(3)", x.count(3), 3);
        x.begin(1);
        x.unsee();
        x.see(1, 0);
        // kept anew
        due("keep(0)", x.keep(0), 0);
        x.hand(0);
        due("again(0)", x.again(0), 0);
        dueCounts(x, 4, 4, 1, 1, 2, 0, 1, 0);
        // THE TEXT is not kept
        put(x, "T5");
        due("again(1)", x.again(1), 3);
        due("count(0)", x.count(0), 2);
    }

    private static void count() {
        promise = "31 count";
        PlateLast x = of("T4W7");
        x.write(2, 0);
        x.begin(3);
        x.hand(2);
        x.see(1, 1);
        dueCounts(x, 6, 4, 3, 2, 12, 1, 1, 1);
        due("count(7) of R", of("T4R7").count(7), 0);
        due("count(7) of H", of("T2H010").count(7), 2);
        due("count(7) of none", of("T2").count(7), 2);
        due("count(8)", x.count(8), -2);
        due("count(-1)", x.count(-1), -2);
        due("count(least)", x.count(Integer.MIN_VALUE), -2);
        due("count(most)", x.count(Integer.MAX_VALUE), -2);
    }
}
