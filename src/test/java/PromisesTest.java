/** Each promise of the document with answers worked out by hand: ordinary inputs, edges, wrong inputs. */
public final class PromisesTest {
    private static final int MIN = Integer.MIN_VALUE;
    private static final int MAX = Integer.MAX_VALUE;

    private static int wrong = 0;

    public static void main(String[] args) {
        newObject();
        append();
        set();
        repeat();
        drop();
        clear();
        runs();
        runsThatNeedCare();
        wrongRunNumbers();
        squares();
        wholePeriod();
        smallestEnd();
        factors();
        smallestTurn();
        System.out.println(wrong == 0 ? "all answers are as due" : wrong + " answers are not as due");
        if (wrong != 0) {
            System.exit(1);
        }
    }

    private static void due(String call, int got, int want) {
        if (got != want) {
            wrong++;
            System.out.println(call + " answered " + got + ", due is " + want);
        }
    }

    private static RunFinder of(String letters) {
        RunFinder x = new RunFinder();
        for (int k = 0; k < letters.length(); k++) {
            due("append to make " + letters, x.append(letters.charAt(k) - '0'), k + 1);
        }
        return x;
    }

    /** Reads the text with calls that leave it as it was: set tells the old letter, and it is put back. */
    private static void textDue(String what, RunFinder x, String want) {
        StringBuilder got = new StringBuilder();
        for (int k = 0; k <= 32; k++) {
            int old = x.set(k, 0);
            if (old < 0) {
                break;
            }
            x.set(k, old);
            got.append(old);
        }
        if (!got.toString().equals(want)) {
            wrong++;
            System.out.println(what + ": the text is '" + got + "', due is '" + want + "'");
        }
    }

    private static void emptyDue(String what, RunFinder x) {
        textDue(what, x, "");
        due(what + ": runs()", x.runs(), 0);
        due(what + ": begin(0)", x.begin(0), RunFinder.NONE);
        due(what + ": end(0)", x.end(0), RunFinder.NONE);
        due(what + ": period(0)", x.period(0), RunFinder.NONE);
        due(what + ": squares()", x.squares(), 0);
        due(what + ": wholePeriod()", x.wholePeriod(), 0);
        due(what + ": smallestEnd()", x.smallestEnd(), RunFinder.NONE);
        due(what + ": factors()", x.factors(), 0);
        due(what + ": smallestTurn()", x.smallestTurn(), RunFinder.NONE);
        due(what + ": drop()", x.drop(), RunFinder.NONE);
    }

    private static void newObject() {
        emptyDue("new object", new RunFinder());
        RunFinder first = of("0123");
        emptyDue("second object beside a filled one", new RunFinder());
        textDue("first object beside a second one", first, "0123");
    }

    private static void append() {
        RunFinder x = of("0123");
        for (int letter : new int[] {-1, 4, MIN, MAX}) {
            due("append(" + letter + ")", x.append(letter), RunFinder.BAD_LETTER);
        }
        textDue("append refused", x, "0123");
        String full = "01230123012301230123012301230123";
        x = of(full);
        for (int letter = 0; letter < 4; letter++) {
            due("append to a full text", x.append(letter), RunFinder.FULL);
        }
        due("append(4) to a full text", x.append(4), RunFinder.BAD_LETTER);
        due("append(-1) to a full text", x.append(-1), RunFinder.BAD_LETTER);
        textDue("append to a full text", x, full);
        due("drop from a full text", x.drop(), 31);
        due("append again", x.append(1), 32);
        textDue("append again", x, full.substring(0, 31) + "1");
    }

    private static void set() {
        RunFinder x = of("0123");
        due("set(0, 3)", x.set(0, 3), 0);
        due("set(3, 0)", x.set(3, 0), 3);
        due("set(2, 2)", x.set(2, 2), 2);
        textDue("set", x, "3120");
        for (int place : new int[] {-1, 4, 5, 31, 32, MIN, MAX}) {
            due("set(" + place + ", 1)", x.set(place, 1), RunFinder.BAD_PLACE);
            due("set(" + place + ", 4)", x.set(place, 4), RunFinder.BAD_PLACE);
        }
        for (int letter : new int[] {-1, 4, MIN, MAX}) {
            due("set(1, " + letter + ")", x.set(1, letter), RunFinder.BAD_LETTER);
        }
        textDue("set refused", x, "3120");
        x.drop();
        due("set at a dropped place", x.set(3, 1), RunFinder.BAD_PLACE);
        due("set in an empty text", new RunFinder().set(0, 0), RunFinder.BAD_PLACE);
        x = of("00000000000000000000000000000000");
        due("set(31, 3)", x.set(31, 3), 0);
        due("set(32, 3)", x.set(32, 3), RunFinder.BAD_PLACE);
        textDue("set at the last place", x, "00000000000000000000000000000003");
    }

    private static void repeat() {
        due("repeat(0), empty", new RunFinder().repeat(0), RunFinder.BAD_PLACE);
        due("repeat(1), empty", new RunFinder().repeat(1), RunFinder.BAD_PLACE);
        RunFinder x = of("0123");
        for (int n : new int[] {0, -1, 5, 32, 33, MIN, MAX}) {
            due("repeat(" + n + ")", x.repeat(n), RunFinder.BAD_PLACE);
        }
        textDue("repeat refused", x, "0123");
        due("repeat(1)", x.repeat(1), 5);
        textDue("repeat(1)", x, "01233");
        due("repeat(3)", x.repeat(3), 8);
        textDue("repeat(3)", x, "01233233");
        due("repeat(8)", x.repeat(8), 16);
        textDue("repeat(8)", x, "0123323301233233");
        due("repeat(16)", x.repeat(16), 32);
        textDue("repeat(16)", x, "01233233012332330123323301233233");
        due("repeat(1), full", x.repeat(1), 32);
        due("repeat(32), full", x.repeat(32), 32);
        due("repeat(33), full", x.repeat(33), RunFinder.BAD_PLACE);
        due("repeat(0), full", x.repeat(0), RunFinder.BAD_PLACE);
        textDue("repeat, full", x, "01233233012332330123323301233233");
        String most = "3000000000000000000000000123";
        x = of(most);
        due("repeat(3) with room for 4", x.repeat(3), 31);
        textDue("repeat(3) with room for 4", x, most + "123");
        due("repeat(2) with room for 1", x.repeat(2), 32);
        textDue("repeat(2) with room for 1", x, most + "1232");
        x = of(most);
        due("repeat(28) with room for 4", x.repeat(28), 32);
        textDue("repeat(28) with room for 4", x, most + "3000");
        x = of(most);
        due("repeat(4) with room for 4", x.repeat(4), 32);
        textDue("repeat(4) with room for 4", x, most + "0123");
    }

    private static void drop() {
        RunFinder x = of("012");
        due("drop()", x.drop(), 2);
        textDue("drop", x, "01");
        due("drop()", x.drop(), 1);
        due("drop()", x.drop(), 0);
        due("drop(), empty", x.drop(), RunFinder.NONE);
        due("drop(), empty again", x.drop(), RunFinder.NONE);
        emptyDue("all dropped", x);
        due("append after drop", x.append(3), 1);
        textDue("append after drop", x, "3");
        x = of("0011");
        x.drop();
        due("runs after drop", x.runs(), 1);
        due("squares after drop", x.squares(), 1);
    }

    private static void clear() {
        RunFinder x = of("01230123");
        x.clear();
        emptyDue("cleared", x);
        x.clear();
        emptyDue("cleared when empty", x);
        due("append after clear", x.append(2), 1);
        textDue("append after clear", x, "2");
        x = of("00000000000000000000000000000000");
        x.clear();
        emptyDue("cleared when full", x);
    }

    /** The runs as begin, end, period, one after the other, in their order. */
    private static void runsDue(String letters, int... want) {
        RunFinder x = of(letters);
        int count = want.length / 3;
        due(letters + ": runs()", x.runs(), count);
        for (int n = 0; n < count; n++) {
            due(letters + ": begin(" + n + ")", x.begin(n), want[3 * n]);
            due(letters + ": end(" + n + ")", x.end(n), want[3 * n + 1]);
            due(letters + ": period(" + n + ")", x.period(n), want[3 * n + 2]);
        }
        due(letters + ": begin past the last", x.begin(count), RunFinder.NONE);
        due(letters + ": end past the last", x.end(count), RunFinder.NONE);
        due(letters + ": period past the last", x.period(count), RunFinder.NONE);
        textDue("after the runs", x, letters);
    }

    private static void runs() {
        runsDue("");
        runsDue("0");
        runsDue("01");
        runsDue("0123");
        runsDue("00", 0, 2, 1);
        runsDue("100", 1, 3, 1);
        runsDue("001", 0, 2, 1);
        runsDue("0101", 0, 4, 2);
        runsDue("01012", 0, 4, 2);
        runsDue("30101", 1, 5, 2);
        runsDue("010");
        runsDue("012301");
        runsDue("01230123", 0, 8, 4);
        runsDue("0123012");
    }

    private static void runsThatNeedCare() {
        // a period that is not the least one makes no run
        runsDue("0000", 0, 4, 1);
        runsDue("01010101", 0, 8, 2);
        runsDue("00000000000000000000000000000000", 0, 32, 1);
        // an end that is no whole number of periods
        runsDue("01010", 0, 5, 2);
        runsDue("301201203", 1, 8, 3);
        // equal beginnings: the smaller period first
        runsDue("001001", 0, 2, 1, 0, 6, 3, 3, 5, 1);
        // runs that overlap
        runsDue("0011011", 0, 2, 1, 1, 7, 3, 2, 4, 1, 5, 7, 1);
        runsDue("10010100101", 0, 11, 5, 1, 3, 1, 2, 7, 2, 4, 10, 3, 6, 8, 1, 7, 11, 2);
        // the longest period that has room
        runsDue("00000000000000010000000000000001", 0, 15, 1, 0, 32, 16, 16, 31, 1);
    }

    private static void wrongRunNumbers() {
        RunFinder x = of("0011");
        for (int n : new int[] {-1, -4, 2, 3, 32, 64, MIN, MAX}) {
            due("begin(" + n + ")", x.begin(n), RunFinder.NONE);
            due("end(" + n + ")", x.end(n), RunFinder.NONE);
            due("period(" + n + ")", x.period(n), RunFinder.NONE);
        }
    }

    private static void squares() {
        due("squares of 0", of("0").squares(), 0);
        due("squares of 01", of("01").squares(), 0);
        due("squares of 00", of("00").squares(), 1);
        due("squares of 0000", of("0000").squares(), 4);
        due("squares of 01010", of("01010").squares(), 2);
        due("squares of 001001", of("001001").squares(), 3);
        due("squares of 0123012", of("0123012").squares(), 0);
        // 31 of length 1, 29 of length 2, ... 1 of length 16
        due("squares of 32 equal letters", of("33333333333333333333333333333333").squares(), 256);
    }

    private static void wholePeriod() {
        due("wholePeriod of nothing", of("").wholePeriod(), 0);
        due("wholePeriod of 2", of("2").wholePeriod(), 1);
        due("wholePeriod of 22", of("22").wholePeriod(), 1);
        due("wholePeriod of 01", of("01").wholePeriod(), 2);
        due("wholePeriod of 010", of("010").wholePeriod(), 2);
        due("wholePeriod of 0110", of("0110").wholePeriod(), 3);
        due("wholePeriod of 012012", of("012012").wholePeriod(), 3);
        due("wholePeriod of 0001", of("0001").wholePeriod(), 4);
        due("wholePeriod of 32 letters", of("00000000000000000000000000000001").wholePeriod(), 32);
        due("wholePeriod of 32 letters", of("01111111111111111111111111111110").wholePeriod(), 31);
    }

    private static void smallestEnd() {
        due("smallestEnd of nothing", of("").smallestEnd(), RunFinder.NONE);
        due("smallestEnd of 3", of("3").smallestEnd(), 0);
        due("smallestEnd of 0123", of("0123").smallestEnd(), 0);
        due("smallestEnd of 3210", of("3210").smallestEnd(), 3);
        due("smallestEnd of 0000", of("0000").smallestEnd(), 3);
        due("smallestEnd of 0101", of("0101").smallestEnd(), 2);
        due("smallestEnd of 10010", of("10010").smallestEnd(), 4);
        due("smallestEnd of 1001011", of("1001011").smallestEnd(), 1);
        due("smallestEnd of 20102", of("20102").smallestEnd(), 1);
    }

    private static void factors() {
        due("factors of nothing", of("").factors(), 0);
        due("factors of 3", of("3").factors(), 1);
        due("factors of 0123", of("0123").factors(), 1);
        due("factors of 3210", of("3210").factors(), 4);
        due("factors of 0101", of("0101").factors(), 2);
        // 1, 001, 0
        due("factors of 10010", of("10010").factors(), 3);
        due("factors of 20102", of("20102").factors(), 2);
        due("factors of 32 equal letters", of("22222222222222222222222222222222").factors(), 32);
        due("factors of 32 letters", of("01111111111111111111111111111111").factors(), 1);
    }

    private static void smallestTurn() {
        due("smallestTurn of nothing", of("").smallestTurn(), RunFinder.NONE);
        due("smallestTurn of 3", of("3").smallestTurn(), 0);
        due("smallestTurn of 3210", of("3210").smallestTurn(), 3);
        due("smallestTurn of 0123", of("0123").smallestTurn(), 0);
        // of equal readings the first place
        due("smallestTurn of 1010", of("1010").smallestTurn(), 1);
        due("smallestTurn of 0000", of("0000").smallestTurn(), 0);
        due("smallestTurn of 120120", of("120120").smallestTurn(), 2);
        // a reading that goes over the end
        due("smallestTurn of 010", of("010").smallestTurn(), 2);
        due("smallestTurn of 0010", of("0010").smallestTurn(), 3);
        due("smallestTurn of 32 letters", of("01111111111111111111111111111110").smallestTurn(), 31);
    }
}
