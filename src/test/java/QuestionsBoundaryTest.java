import java.util.function.ToIntBiFunction;

/** Promises 7 to 15: each sentence that names a boundary has a test of its own, with a value on each side. */
public final class QuestionsBoundaryTest extends Checks {
    private static final int NONE = RunFinder.NONE;
    private static final String ZEROS = "00000000000000000000000000000000";
    private static final String ONES = "11111111111111111111111111111111";
    /** No text of 32 letters is known here to have more runs. */
    private static final String MANY_RUNS = "00101101001011010110100101101011";

    /** Among them numbers that look right if only their lowest bits are looked at. */
    private static final int[] NEVER_A_RUN = {-1, -2, -3, -4, -32, -64, 32, 64, 256, 65536, MIN, MIN + 1, MAX};

    public static void main(String[] args) {
        test("Promise 7: How many runs there are: none", QuestionsBoundaryTest::noRuns);
        test("Promise 7: How many runs there are: one", QuestionsBoundaryTest::oneRun);
        test("Promise 7: How many runs there are: many", QuestionsBoundaryTest::manyRuns);

        test("Promise 8: run number n, from 0", QuestionsBoundaryTest::beginFromZero);
        test("Promise 8: NONE if there is none", () -> none("begin", RunFinder::begin, 1, 9));
        test("Promise 8: NONE if there is none, of a text without runs", () -> withoutRuns("begin", RunFinder::begin, 0));
        test("Promise 9: The end j of run number n", QuestionsBoundaryTest::endFromZero);
        test("Promise 9: NONE", () -> none("end", RunFinder::end, 8, 11));
        test("Promise 9: NONE, of a text without runs", () -> withoutRuns("end", RunFinder::end, 2));
        test("Promise 10: The least period of run number n", QuestionsBoundaryTest::periodFromZero);
        test("Promise 10: NONE", () -> none("period", RunFinder::period, 3, 1));
        test("Promise 10: NONE, of a text without runs", () -> withoutRuns("period", RunFinder::period, 1));

        test("Promise 11: How many squares there are: none", QuestionsBoundaryTest::noSquares);
        test("Promise 11: How many squares there are: in a run", QuestionsBoundaryTest::squaresInRun);
        test("Promise 11: How many squares there are: the most", QuestionsBoundaryTest::mostSquares);

        test("Promise 12: 0 if it is empty", QuestionsBoundaryTest::wholePeriodEmpty);
        test("Promise 12: The least period of the whole text", QuestionsBoundaryTest::wholePeriodOfAll);

        test("Promise 13: NONE if the text is empty", QuestionsBoundaryTest::smallestEndEmpty);
        test("Promise 13: the smallest non-empty stretch", QuestionsBoundaryTest::smallestEndNotEmpty);
        test("Promise 13: that goes to the text's end", QuestionsBoundaryTest::smallestEndToTheEnd);

        test("Promise 14: 0 if it is empty", QuestionsBoundaryTest::factorsEmpty);
        test("Promise 14: cut, from its end on, again and again", QuestionsBoundaryTest::factorsAgain);
        test("Promise 14: to the end of what is left", QuestionsBoundaryTest::factorsOfWhatIsLeft);

        test("Promise 15: NONE if the text is empty", QuestionsBoundaryTest::smallestTurnEmpty);
        test("Promise 15: from there to its end and then from its beginning on", QuestionsBoundaryTest::smallestTurnAround);
        test("Promise 15: to its end, the end not being smaller than a letter", QuestionsBoundaryTest::smallestTurnPastEnd);
        test("Promise 15: the smallest of all readings", QuestionsBoundaryTest::smallestTurnOfAll);
        test("Promise 15: The smallest place", QuestionsBoundaryTest::smallestTurnPlace);
        end();
    }

    private static void count(String letters, int want) {
        due("'" + letters + "': runs()", of(letters).runs(), want);
    }

    private static void noRuns() {
        count("", 0);
        count("0", 0);
        count("01", 0);
        count("010", 0);
        count("0102013", 0);
        RunFinder x = of("00");
        due("runs before clear", x.runs(), 1);
        x.clear();
        due("runs after clear", x.runs(), 0);
    }

    private static void oneRun() {
        count("00", 1);
        count("000", 1);
        count("0101", 1);
        count("01010", 1);
        count(ZEROS, 1);
        count(FULL_TEXT, 1);
    }

    private static void manyRuns() {
        count("0011", 2);
        count("00110011001100110011001100110011", 17);
        count(MANY_RUNS, 26);
        runs(MANY_RUNS, "0-2:1 0-17:8 1-5:2 1-32:13 2-8:3 4-6:1 5-9:2 6-12:3 8-10:1 9-13:2 9-22:5 10-16:3 12-14:1"
            + " 13-18:2 14-30:8 15-21:3 17-19:1 18-22:2 19-25:3 21-23:1 22-26:2 22-32:5 23-29:3 25-27:1 26-31:2 30-32:1");
        due("past the last of many runs: begin", of(MANY_RUNS).begin(26), NONE);
        due("past the last of many runs: end", of(MANY_RUNS).end(26), NONE);
        due("past the last of many runs: period", of(MANY_RUNS).period(26), NONE);
    }

    /** 30120120011 has the runs 1-8:3, 7-9:1 and 9-11:1. */
    private static RunFinder threeRuns() {
        return of("30120120011");
    }

    private static void fromZero(String name, ToIntBiFunction<RunFinder, Integer> call, int first, int second, int third) {
        due(name + "(0)", call.applyAsInt(threeRuns(), 0), first);
        due(name + "(1)", call.applyAsInt(threeRuns(), 1), second);
        due(name + "(2)", call.applyAsInt(threeRuns(), 2), third);
    }

    private static void none(String name, ToIntBiFunction<RunFinder, Integer> call, int first, int last) {
        due(name + "(-1)", call.applyAsInt(threeRuns(), -1), NONE);
        due(name + "(0)", call.applyAsInt(threeRuns(), 0), first);
        due(name + "(2)", call.applyAsInt(threeRuns(), 2), last);
        due(name + "(3)", call.applyAsInt(threeRuns(), 3), NONE);
        due(name + "(4)", call.applyAsInt(threeRuns(), 4), NONE);
        for (int n : NEVER_A_RUN) {
            due(name + "(" + n + ")", call.applyAsInt(threeRuns(), n), NONE);
        }
    }

    private static void withoutRuns(String name, ToIntBiFunction<RunFinder, Integer> call, int ofTwoZeros) {
        for (int n = -1; n <= 1; n++) {
            due("'': " + name + "(" + n + ")", call.applyAsInt(of(""), n), NONE);
            due("'0': " + name + "(" + n + ")", call.applyAsInt(of("0"), n), NONE);
            due("'0123': " + name + "(" + n + ")", call.applyAsInt(of("0123"), n), NONE);
        }
        due("'00': " + name + "(0)", call.applyAsInt(of("00"), 0), ofTwoZeros);
    }

    private static void beginFromZero() {
        fromZero("begin", RunFinder::begin, 1, 7, 9);
        due("begin(0) of a run from 0", of("00").begin(0), 0);
        due("begin(1) of a run at the end of a full text", of("01230123012301230123012301230122").begin(1), 30);
    }

    private static void endFromZero() {
        fromZero("end", RunFinder::end, 8, 9, 11);
        due("end(0) of a full text", of(ZEROS).end(0), 32);
    }

    private static void periodFromZero() {
        fromZero("period", RunFinder::period, 3, 1, 1);
        // The longest period that has room: 15 zeros and a 1, twice.
        runs("00000000000000010000000000000001", "0-15:1 0-32:16 16-31:1");
        runs("0000000000000001000000000000000", "0-15:1 16-31:1");
    }

    private static void noSquares() {
        squares("", 0);
        squares("0", 0);
        squares("01", 0);
        squares("010", 0);
        squares("00", 1);
        squares("0101", 1);
    }

    private static void squaresInRun() {
        // A run of period 2 holds a square at each place but the last three; from 8 letters on also ones of length 4.
        squares("010", 0);
        squares("0101", 1);
        squares("01010", 2);
        squares("010101", 3);
        squares("0101010", 4);
        squares("01010101", 6);
        // 3 of length 1 and 1 of length 2
        squares("0000", 4);
        squares("000", 2);
    }

    private static void mostSquares() {
        // 31 of length 1, 29 of length 2, ... 1 of length 16
        squares(ZEROS, 256);
        // 30 of length 1, 28 of length 2, ... 2 of length 15
        squares(ZEROS.substring(1), 240);
        squares(ZEROS.substring(1) + "1", 240);
        squares("1" + ZEROS.substring(1), 240);
    }

    private static void wholePeriodEmpty() {
        wholePeriod("", 0);
        wholePeriod("0", 1);
        wholePeriod("3", 1);
        RunFinder x = of("01");
        x.drop();
        due("wholePeriod of one letter after drop", x.wholePeriod(), 1);
        x.drop();
        due("wholePeriod of none after drop", x.wholePeriod(), 0);
    }

    private static void wholePeriodOfAll() {
        wholePeriod(ZEROS, 1);
        wholePeriod("0" + ONES.substring(2) + "0", 31);
        wholePeriod(ZEROS.substring(1) + "1", 32);
        // A period of less than the half is one too, and so is one of more.
        wholePeriod("0123012301230123", 4);
        wholePeriod("0123012301230122", 16);
        wholePeriod("0120", 3);
    }

    private static void smallestEndEmpty() {
        smallestEnd("", NONE);
        smallestEnd("0", 0);
        smallestEnd("3", 0);
        RunFinder x = of("3");
        x.drop();
        due("smallestEnd after drop", x.smallestEnd(), NONE);
    }

    private static void smallestEndNotEmpty() {
        // The empty stretch at the end would be the smallest one of all.
        smallestEnd("10", 1);
        smallestEnd("01", 0);
        smallestEnd(ZEROS, 31);
        smallestEnd(ONES.substring(1) + "0", 31);
        smallestEnd("0" + ONES.substring(1), 0);
    }

    private static void smallestEndToTheEnd() {
        // 0 alone would be the smallest stretch, but doesn't go to the end.
        smallestEnd("0011", 0);
        smallestEnd("1011", 1);
        // The reading stops at the end: read around it, the one from 1 would be smaller.
        smallestEnd("20010", 4);
        // A letter that stood behind the end before isn't read, be it a small or a great one.
        for (int letter = 0; letter <= 3; letter++) {
            RunFinder x = of("010" + letter);
            x.drop();
            due("smallestEnd after " + letter + " was dropped", x.smallestEnd(), 2);
        }
    }

    private static void factorsEmpty() {
        factors("", 0);
        factors("0", 1);
        factors("3", 1);
        RunFinder x = of("3");
        x.drop();
        due("factors after drop", x.factors(), 0);
    }

    private static void factorsAgain() {
        // Equal factors count each: 0 and 0, 01 and 01.
        factors("00", 2);
        factors("01", 1);
        factors("0101", 2);
        factors("0102", 1);
        factors(ZEROS.substring(1), 31);
        factors(ZEROS, 32);
        factors("0" + ONES.substring(1), 1);
        factors("33222211110000", 14);
    }

    private static void factorsOfWhatIsLeft() {
        // 1, 001, 0: without the last 0, 001 is the smallest one.
        factors("10010", 3);
        // 12, 02, 01: each goes to the end of what is left only.
        factors("120201", 3);
        // 1, 1, 01, 001
        factors("1101001", 4);
    }

    private static void smallestTurnEmpty() {
        smallestTurn("", NONE);
        smallestTurn("0", 0);
        smallestTurn("3", 0);
        RunFinder x = of("3");
        x.drop();
        due("smallestTurn after drop", x.smallestTurn(), NONE);
    }

    private static void smallestTurnAround() {
        smallestTurn("010", 2);
        smallestTurn("0010", 3);
        smallestTurn("0110100", 5);
        // 0 3 0 1 against 0 1 0 3: the turn that is smaller goes around, and the other one doesn't.
        smallestTurn("0301", 2);
        smallestTurn("0103", 0);
        smallestTurn("0" + ONES.substring(2) + "0", 31);
        // A letter that stood behind the end before isn't read, be it a small or a great one.
        for (int letter = 0; letter <= 3; letter++) {
            RunFinder x = of("010" + letter);
            x.drop();
            due("smallestTurn after " + letter + " was dropped", x.smallestTurn(), 2);
        }
    }

    private static void smallestTurnPastEnd() {
        // The last 0 is the smallest end, but read on from it there is 02001, and 00102 is smaller.
        smallestTurn("20010", 1);
        smallestTurn("10", 1);
        smallestTurn("00", 0);
        smallestTurn("30120", 1);
        smallestTurn("302010", 3);
    }

    private static void smallestTurnOfAll() {
        smallestTurn("0" + ONES.substring(1), 0);
        smallestTurn("10" + ONES.substring(2), 1);
        smallestTurn(ONES.substring(1) + "0", 31);
        // The readings from 0 and from 31 differ late: in the last letter but one.
        smallestTurn(ZEROS.substring(2) + "10", 31);
        smallestTurn(ZEROS.substring(1) + "1", 0);
    }

    private static void smallestTurnPlace() {
        smallestTurn("00", 0);
        smallestTurn("0101", 0);
        smallestTurn("1010", 1);
        smallestTurn("120120", 2);
        smallestTurn("201201201", 1);
        smallestTurn(ZEROS, 0);
        smallestTurn(FULL_TEXT, 0);
        smallestTurn("30123012301230123012301230123012", 1);
    }
}
