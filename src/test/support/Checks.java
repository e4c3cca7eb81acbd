import java.util.function.ToIntFunction;

/** What the tests by hand share: texts, single steps from one text to another, and the count of wrong answers. */
class Checks {
    static final int MIN = Integer.MIN_VALUE;
    static final int MAX = Integer.MAX_VALUE;
    /** A text without room, whose letters near its end are all different. */
    static final String FULL_TEXT = "01230123012301230123012301230123";

    private static String sentence = "";
    private static int tests = 0;
    private static int wrong = 0;

    /** Runs one test; a wrong answer is told with the sentence of the document that asks for another one. */
    static void test(String ofDocument, Runnable body) {
        sentence = ofDocument;
        tests++;
        try {
            body.run();
        } catch (RuntimeException thrown) {
            // No call may throw; the tests after this one are still to be run.
            wrong++;
            System.out.println("[" + sentence + "] a call threw " + thrown);
        }
    }

    static void end() {
        System.out.println(tests + " tests, " + (wrong == 0 ? "all answers are as due" : wrong + " answers are not as due"));
        if (wrong != 0) {
            System.exit(1);
        }
    }

    static void due(String call, Object got, Object want) {
        if (!got.equals(want)) {
            wrong++;
            System.out.println("[" + sentence + "] " + call + " answered " + got + ", due is " + want);
        }
    }

    static RunFinder of(String letters) {
        RunFinder x = new RunFinder();
        for (int k = 0; k < letters.length(); k++) {
            due("append to make '" + letters + "'", x.append(letters.charAt(k) - '0'), k + 1);
        }
        return x;
    }

    /** Reads the text with calls that leave it as it was: set tells the old letter, and it is put back. */
    static String textOf(RunFinder x) {
        StringBuilder text = new StringBuilder();
        for (int k = 0; k <= 32; k++) {
            int old = x.set(k, 0);
            if (old < 0) {
                break;
            }
            x.set(k, old);
            text.append(old);
        }
        return text.toString();
    }

    /** The runs as 'begin-end:period', in their order. */
    static String runsOf(RunFinder x) {
        StringBuilder runs = new StringBuilder();
        int count = x.runs();
        for (int n = 0; n < count; n++) {
            runs.append(n == 0 ? "" : " ").append(x.begin(n)).append('-').append(x.end(n)).append(':').append(x.period(n));
        }
        return runs.toString();
    }

    static String answersOf(RunFinder x) {
        return "runs " + runsOf(x) + ", squares " + x.squares() + ", wholePeriod " + x.wholePeriod()
            + ", smallestEnd " + x.smallestEnd() + ", factors " + x.factors() + ", smallestTurn " + x.smallestTurn();
    }

    /** The object can't be told from a new one with these letters. */
    static void sameAs(String what, RunFinder x, String letters) {
        due(what + ": the text afterwards", textOf(x), letters);
        due(what + ": the answers afterwards", answersOf(x), answersOf(of(letters)));
    }

    private static void step(String before, String name, ToIntFunction<RunFinder> call, int want, String after) {
        String what = "'" + before + "': " + name;
        RunFinder x = of(before);
        due(what, call.applyAsInt(x), want);
        sameAs(what, x, after);
    }

    /** A call that changes nothing: asked again it answers the same, and the text stays. */
    static void asks(String letters, String name, ToIntFunction<RunFinder> call) {
        String what = "'" + letters + "': " + name;
        RunFinder x = of(letters);
        int answer = call.applyAsInt(x);
        due(what + " asked again", call.applyAsInt(x), answer);
        sameAs(what, x, letters);
    }

    static void append(String before, int letter, int want, String after) {
        step(before, "append(" + letter + ")", x -> x.append(letter), want, after);
    }

    static void set(String before, int place, int letter, int want, String after) {
        step(before, "set(" + place + ", " + letter + ")", x -> x.set(place, letter), want, after);
    }

    static void repeat(String before, int n, int want, String after) {
        step(before, "repeat(" + n + ")", x -> x.repeat(n), want, after);
    }

    static void drop(String before, int want, String after) {
        step(before, "drop()", x -> x.drop(), want, after);
    }

    static void clear(String before) {
        RunFinder x = of(before);
        x.clear();
        sameAs("'" + before + "': clear()", x, "");
    }

    static void runs(String letters, String want) {
        due("'" + letters + "': the runs", runsOf(of(letters)), want);
    }

    static void squares(String letters, int want) {
        due("'" + letters + "': squares()", of(letters).squares(), want);
    }

    static void wholePeriod(String letters, int want) {
        due("'" + letters + "': wholePeriod()", of(letters).wholePeriod(), want);
    }

    static void smallestEnd(String letters, int want) {
        due("'" + letters + "': smallestEnd()", of(letters).smallestEnd(), want);
    }

    static void factors(String letters, int want) {
        due("'" + letters + "': factors()", of(letters).factors(), want);
    }

    static void smallestTurn(String letters, int want) {
        due("'" + letters + "': smallestTurn()", of(letters).smallestTurn(), want);
    }
}
