/** The sentences under 'Terms' that name a boundary: each has a test of its own, with a value on each side. */
public final class TermsBoundaryTest extends Checks {
    private static final int LONGEST_PERIOD = 16;

    public static void main(String[] args) {
        test("What it is: at most 512 calls", TermsBoundaryTest::lastCall);
        test("Terms: a list of up to 32 letters", TermsBoundaryTest::longestText);
        test("Terms: A PERIOD is a number p from 1 on", TermsBoundaryTest::periodFromOne);
        test("Terms: any two letters that are p places apart are equal", TermsBoundaryTest::firstAndLastPair);
        test("Terms: its length is one of its periods", TermsBoundaryTest::lengthIsPeriod);

        test("Terms: j - i is at least 2 * p, the stretch being the text", TermsBoundaryTest::twicePeriod);
        test("Terms: j - i is at least 2 * p, within the text", TermsBoundaryTest::twicePeriodWithin);
        test("Terms: i is 0", TermsBoundaryTest::runAtBeginning);
        test("Terms: or the letters at i - 1 and i - 1 + p differ", TermsBoundaryTest::letterBefore);
        test("Terms: j is the text's length", TermsBoundaryTest::runAtEnd);
        test("Terms: or the letters at j and j - p differ", TermsBoundaryTest::letterAfter);
        test("Terms: with p its least period", TermsBoundaryTest::leastPeriodOnly);
        test("Terms: RUNS ARE ORDERED by their beginning", TermsBoundaryTest::orderByBeginning);
        test("Terms: of equal beginnings by their period", TermsBoundaryTest::orderByPeriod);

        test("Terms: a length q from 1 on", TermsBoundaryTest::squareFromOne);
        test("Terms: the stretches of a square lie in the text", TermsBoundaryTest::squareInText);
        test("Terms: the stretches of a square have the same letters", TermsBoundaryTest::squareSameLetters);

        test("Terms: the one that is the beginning of the other is the smaller one", TermsBoundaryTest::beginningOfOther);
        test("Terms: otherwise the first letter in which they differ decides", TermsBoundaryTest::firstDifference);
        test("Terms: smaller letters first", TermsBoundaryTest::smallerLetters);

        test("Terms: The calls below change nothing, of an empty text", () -> changesNothing(""));
        test("Terms: The calls below change nothing, of one letter", () -> changesNothing("2"));
        test("Terms: The calls below change nothing, of a text with runs", () -> changesNothing("0010010"));
        test("Terms: The calls below change nothing, of a full text", () -> changesNothing(FULL_TEXT));
        end();
    }

    private static String zeros(int count) {
        return "0".repeat(count);
    }

    /** A word of p letters whose repetitions have the least period p, as it has one 1 only. */
    private static String word(int p) {
        return zeros(p - 1) + "1";
    }

    private static String runsOfPeriod(String letters, int p) {
        StringBuilder found = new StringBuilder();
        for (String run : runsOf(of(letters)).split(" ")) {
            if (run.endsWith(":" + p)) {
                found.append(run.substring(0, run.indexOf(':')));
            }
        }
        return found.toString();
    }

    private static void periodRuns(String letters, int p, String want) {
        due("'" + letters + "': the runs of period " + p, runsOfPeriod(letters, p), want);
    }

    private static void lastCall() {
        RunFinder x = new RunFinder();
        for (int k = 0; k < 255; k++) {
            due("append, call " + (2 * k + 1), x.append(k % 4), 1);
            due("drop, call " + (2 * k + 2), x.drop(), 0);
        }
        due("append, call 511", x.append(3), 1);
        due("wholePeriod, call 512", x.wholePeriod(), 1);
    }

    private static void longestText() {
        append(zeros(31), 1, 32, zeros(31) + "1");
        append(zeros(32), 1, RunFinder.FULL, zeros(32));
        repeat(zeros(30) + "1", 31, 32, zeros(30) + "10");
        repeat(zeros(31) + "1", 32, 32, zeros(31) + "1");
        runs(zeros(31), "0-31:1");
        runs(zeros(32), "0-32:1");
    }

    private static void periodFromOne() {
        wholePeriod("2", 1);
        wholePeriod("00", 1);
        wholePeriod("01", 2);
        wholePeriod(zeros(32), 1);
    }

    private static void firstAndLastPair() {
        // The period 2 fails in the first pair, in the last pair, in none.
        wholePeriod("001010", 5);
        wholePeriod("010100", 5);
        wholePeriod("010101", 2);
        wholePeriod("1" + zeros(31), 32);
        wholePeriod(zeros(31) + "1", 32);
    }

    private static void lengthIsPeriod() {
        for (int k = 1; k <= 32; k++) {
            wholePeriod(word(k), k);
        }
        for (int k = 2; k <= 31; k++) {
            wholePeriod(word(k) + "0", k);
            wholePeriod(word(k) + "1", k + 1);
        }
    }

    private static void twicePeriod() {
        for (int p = 1; p <= LONGEST_PERIOD; p++) {
            String twice = word(p) + word(p);
            periodRuns(twice.substring(0, 2 * p - 1), p, "");
            periodRuns(twice.substring(1), p, "");
            periodRuns(twice, p, "0-" + 2 * p);
        }
        for (int p = 1; p < LONGEST_PERIOD; p++) {
            String more = word(p) + word(p) + word(p);
            periodRuns(more.substring(0, 2 * p + 1), p, "0-" + (2 * p + 1));
        }
    }

    private static void twicePeriodWithin() {
        for (int p = 1; p < LONGEST_PERIOD; p++) {
            String twice = word(p) + word(p);
            periodRuns("2" + twice.substring(0, 2 * p - 1) + "3", p, "");
            periodRuns("2" + twice.substring(1) + "3", p, "");
            periodRuns("2" + twice + "3", p, "1-" + (2 * p + 1));
        }
    }

    private static void runAtBeginning() {
        runs("00", "0-2:1");
        runs("100", "1-3:1");
        runs("20101", "1-5:2");
        // The text's last letter doesn't stand before its first one: it is the one at p - 1 here.
        runs("0101", "0-4:2");
        runs("012012", "0-6:3");
    }

    private static void letterBefore() {
        runs("00101", "0-2:1 1-5:2");
        runs("10101", "0-5:2");
        runs("20101", "1-5:2");
        runs("30101", "1-5:2");
        runs("1000", "1-4:1");
        runs("0000", "0-4:1");
        RunFinder x = of("3012012");
        due("a letter before that differs", runsOf(x), "1-7:3");
        x.set(0, 2);
        due("the letter before made equal", runsOf(x), "0-7:3");
        x.set(0, 1);
        due("the letter before made different", runsOf(x), "1-7:3");
    }

    private static void runAtEnd() {
        runs("0100", "2-4:1");
        runs("1001", "1-3:1");
        runs("0101", "0-4:2");
        runs("01012", "0-4:2");
        runs("3012012", "1-7:3");
        runs("30120123", "1-7:3");
        // The letters that stood behind the text's end before are none of its letters.
        RunFinder x = of("0101010");
        x.drop();
        due("the run after drop", runsOf(x), "0-6:2");
        x.drop();
        due("the run after drop", runsOf(x), "0-5:2");
        x.drop();
        due("the run after drop", runsOf(x), "0-4:2");
        x.drop();
        due("the run after drop", runsOf(x), "");
    }

    private static void letterAfter() {
        runs("01010", "0-5:2");
        runs("01011", "0-4:2 3-5:1");
        runs("01012", "0-4:2");
        runs("01013", "0-4:2");
        runs("0001", "0-3:1");
        runs("0000", "0-4:1");
        RunFinder x = of("0120123");
        due("a letter after that differs", runsOf(x), "0-6:3");
        x.set(6, 0);
        due("the letter after made equal", runsOf(x), "0-7:3");
        x.set(6, 1);
        due("the letter after made different", runsOf(x), "0-6:3");
    }

    private static void leastPeriodOnly() {
        // 2 is a period of 0000 and 4 one of 01010101, but not the least one.
        runs("0000", "0-4:1");
        runs("01010101", "0-8:2");
        runs("010101012", "0-8:2");
        runs("012012012012", "0-12:3");
        // 4 is the least one here.
        runs("00010001", "0-3:1 0-8:4 4-7:1");
        runs("01020102", "0-8:4");
        for (int length = 2; length <= 32; length++) {
            runs(zeros(length), "0-" + length + ":1");
        }
    }

    private static void orderByBeginning() {
        // The earlier run has the greater period and the later end.
        runs("100100", "0-6:3 1-3:1 4-6:1");
        // The earlier run has the smaller period and the earlier end.
        runs("0011", "0-2:1 2-4:1");
        runs("00101", "0-2:1 1-5:2");
        runs("01011", "0-4:2 3-5:1");
    }

    private static void orderByPeriod() {
        runs("001001", "0-2:1 0-6:3 3-5:1");
        runs("3001001", "1-3:1 1-7:3 4-6:1");
        // Three runs that begin together.
        runs("00100100010010", "0-2:1 0-8:3 0-14:7 3-5:1 3-12:4 6-9:1 7-14:3 10-12:1");
    }

    private static void squareFromOne() {
        // A length of 0 would make a square at each place.
        squares("0", 0);
        squares("01", 0);
        squares("00", 1);
    }

    private static void squareInText() {
        for (int q = 1; q <= LONGEST_PERIOD; q++) {
            String twice = word(q) + word(q);
            // The last letter ends one square only: the 1 before it is q places away.
            int without = of(twice.substring(0, 2 * q - 1)).squares();
            squares(twice, without + 1);
        }
        for (int q = 1; q < LONGEST_PERIOD; q++) {
            String twice = "2" + word(q) + word(q);
            int without = of(twice.substring(0, 2 * q)).squares();
            squares(twice, without + 1);
        }
        // The letters that stood behind the text's end before are none of its letters.
        RunFinder x = of("012012");
        due("squares before drop", x.squares(), 1);
        x.drop();
        due("squares after drop", x.squares(), 0);
    }

    private static void squareSameLetters() {
        squares("012012", 1);
        squares("312012", 0);
        squares("032012", 0);
        squares("013012", 0);
        squares("012312", 0);
        squares("012032", 0);
        squares("012013", 0);
    }

    private static void beginningOfOther() {
        smallestEnd("00", 1);
        smallestEnd("010", 2);
        smallestEnd("0101", 2);
        smallestEnd("012012", 3);
        smallestEnd(zeros(32), 31);
        factors("00", 2);
        factors("0101", 2);
    }

    private static void firstDifference() {
        // 02 is no beginning of 0102, and 01 none of 0201.
        smallestEnd("0102", 0);
        smallestEnd("0201", 2);
        smallestEnd("012013", 0);
        smallestEnd("013012", 3);
        // A later letter would decide the other way.
        smallestEnd("013021", 0);
        smallestEnd("021013", 3);
        // The difference is in the last letter of the shorter one.
        smallestEnd(word(16) + zeros(15) + "2", 0);
        smallestEnd(zeros(15) + "2" + word(16), 16);
    }

    private static void smallerLetters() {
        smallestEnd("01", 0);
        smallestEnd("10", 1);
        smallestEnd("12", 0);
        smallestEnd("21", 1);
        smallestEnd("23", 0);
        smallestEnd("32", 1);
        smallestTurn("23", 0);
        smallestTurn("32", 1);
    }

    private static void changesNothing(String letters) {
        asks(letters, "runs()", x -> x.runs());
        for (int n : new int[] {MIN, -1, 0, 1, 2, 3, 32, MAX}) {
            asks(letters, "begin(" + n + ")", x -> x.begin(n));
            asks(letters, "end(" + n + ")", x -> x.end(n));
            asks(letters, "period(" + n + ")", x -> x.period(n));
        }
        asks(letters, "squares()", x -> x.squares());
        asks(letters, "wholePeriod()", x -> x.wholePeriod());
        asks(letters, "smallestEnd()", x -> x.smallestEnd());
        asks(letters, "factors()", x -> x.factors());
        asks(letters, "smallestTurn()", x -> x.smallestTurn());
    }
}
