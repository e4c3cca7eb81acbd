/** Each promise of the document with ordinary inputs and answers worked out by hand. */
public final class PromisesTest extends Checks {
    public static void main(String[] args) {
        test("Promise 1: a new object", PromisesTest::newObject);
        test("Promise 2: append", PromisesTest::appends);
        test("Promise 3: set", PromisesTest::sets);
        test("Promise 4: repeat", PromisesTest::repeats);
        test("Promise 5: drop", PromisesTest::drops);
        test("Promise 6: clear", PromisesTest::clears);
        test("Promise 7 to 10: runs, begin, end, period", PromisesTest::allRuns);
        test("Promise 11: squares", PromisesTest::allSquares);
        test("Promise 12: wholePeriod", PromisesTest::wholePeriods);
        test("Promise 13: smallestEnd", PromisesTest::smallestEnds);
        test("Promise 14: factors", PromisesTest::allFactors);
        test("Promise 15: smallestTurn", PromisesTest::smallestTurns);
        end();
    }

    private static void newObject() {
        sameAs("new object", new RunFinder(), "");
        RunFinder first = of("0123");
        sameAs("second object beside a filled one", new RunFinder(), "");
        sameAs("first object beside a second one", first, "0123");
    }

    private static void appends() {
        append("", 2, 1, "2");
        append("2", 2, 2, "22");
        append("0123", 1, 5, "01231");
    }

    private static void sets() {
        set("0123", 0, 3, 0, "3123");
        set("0123", 1, 0, 1, "0023");
        set("0123", 2, 2, 2, "0123");
        set("0123", 3, 1, 3, "0121");
    }

    private static void repeats() {
        repeat("0123", 1, 5, "01233");
        repeat("01233", 3, 8, "01233233");
        repeat("01233233", 8, 16, "0123323301233233");
    }

    private static void drops() {
        drop("012", 2, "01");
        drop("0011", 3, "001");
        RunFinder x = of("012");
        x.drop();
        due("append after drop", x.append(3), 3);
        sameAs("append after drop", x, "013");
    }

    private static void clears() {
        clear("01230123");
        RunFinder x = of("0011");
        x.clear();
        due("append after clear", x.append(1), 1);
        sameAs("append after clear", x, "1");
    }

    private static void allRuns() {
        runs("0123", "");
        runs("012301", "");
        runs("0110", "1-3:1");
        runs("30101", "1-5:2");
        runs("01230123", "0-8:4");
        runs("301201203", "1-8:3");
        // runs that overlap
        runs("0011011", "0-2:1 1-7:3 2-4:1 5-7:1");
        runs("10010100101", "0-11:5 1-3:1 2-7:2 4-10:3 6-8:1 7-11:2");
    }

    private static void allSquares() {
        squares("0123012", 0);
        squares("0110", 1);
        squares("01010", 2);
        squares("001001", 3);
    }

    private static void wholePeriods() {
        wholePeriod("22", 1);
        wholePeriod("010", 2);
        wholePeriod("0110", 3);
        wholePeriod("012012", 3);
        wholePeriod("0001", 4);
    }

    private static void smallestEnds() {
        smallestEnd("0123", 0);
        smallestEnd("3210", 3);
        smallestEnd("10010", 4);
        smallestEnd("1001011", 1);
        smallestEnd("20102", 1);
    }

    private static void allFactors() {
        factors("0123", 1);
        factors("3210", 4);
        // 1, 001, 0
        factors("10010", 3);
        // 2, 0102
        factors("20102", 2);
        // 1, 001011
        factors("1001011", 2);
    }

    private static void smallestTurns() {
        smallestTurn("0123", 0);
        smallestTurn("3210", 3);
        smallestTurn("2301", 2);
        smallestTurn("20010", 1);
    }
}
