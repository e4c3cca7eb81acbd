import java.util.ArrayList;
import java.util.List;

/**
 * Compares the class with a second writing of the document, over strings: on all short texts, and on runs of
 * calls up to the 512th, wrong ones among them, that a fixed sequence of numbers chooses.
 */
public final class ModelTest {
    private static final int SHOWN = 20;
    private static final int CALLS = 512;
    private static final int MIN = Integer.MIN_VALUE;
    private static final int MAX = Integer.MAX_VALUE;

    private static int wrong = 0;
    private static long seed = 1;

    public static void main(String[] args) {
        allTexts(4, 6);
        allTexts(3, 8);
        allTexts(2, 12);
        for (int k = 0; k < 3000; k++) {
            runOfCalls();
        }
        for (int k = 0; k < 200; k++) {
            longestRunOfCalls();
        }
        System.out.println(wrong == 0 ? "all answers are as due" : wrong + " answers are not as due");
        if (wrong != 0) {
            System.exit(1);
        }
    }

    private static void due(String text, String call, int got, int want) {
        if (got != want) {
            wrong++;
            if (wrong <= SHOWN) {
                System.out.println("'" + text + "': " + call + " answered " + got + ", due is " + want);
            }
        }
    }

    private static void allTexts(int letters, int longest) {
        List<String> texts = new ArrayList<>();
        texts.add("");
        for (int k = 0; k < texts.size(); k++) {
            String text = texts.get(k);
            RunFinder x = new RunFinder();
            for (int i = 0; i < text.length(); i++) {
                x.append(text.charAt(i) - '0');
            }
            questions(x, text);
            for (int letter = 0; letter < letters && text.length() < longest; letter++) {
                texts.add(text + letter);
            }
        }
    }

    private static void questions(RunFinder x, String text) {
        List<int[]> runs = modelRuns(text);
        due(text, "runs()", x.runs(), runs.size());
        for (int n = -1; n <= runs.size(); n++) {
            runQuestions(x, text, runs, n);
        }
        due(text, "squares()", x.squares(), modelSquares(text));
        due(text, "wholePeriod()", x.wholePeriod(), modelPeriod(text));
        due(text, "smallestEnd()", x.smallestEnd(), modelSmallestEnd(text));
        due(text, "factors()", x.factors(), modelFactors(text));
        due(text, "smallestTurn()", x.smallestTurn(), modelSmallestTurn(text));
    }

    private static void runQuestions(RunFinder x, String text, List<int[]> runs, int n) {
        due(text, "begin(" + n + ")", x.begin(n), modelRun(runs, n, 0));
        due(text, "end(" + n + ")", x.end(n), modelRun(runs, n, 1));
        due(text, "period(" + n + ")", x.period(n), modelRun(runs, n, 2));
    }

    /** Part 0, 1 or 2 of run number n: its beginning, end or period. */
    private static int modelRun(List<int[]> runs, int n, int part) {
        return n >= 0 && n < runs.size() ? runs.get(n)[part] : RunFinder.NONE;
    }

    private static int modelPeriod(String stretch) {
        for (int p = 1; p <= stretch.length(); p++) {
            if (stretch.startsWith(stretch.substring(p))) {
                return p;
            }
        }
        return 0;
    }

    /** Looks at every stretch, as the document's words do. */
    private static List<int[]> modelRuns(String text) {
        List<int[]> runs = new ArrayList<>();
        for (int i = 0; i < text.length(); i++) {
            for (int j = i + 2; j <= text.length(); j++) {
                int p = modelPeriod(text.substring(i, j));
                if (j - i >= 2 * p
                    && (i == 0 || text.charAt(i - 1) != text.charAt(i - 1 + p))
                    && (j == text.length() || text.charAt(j) != text.charAt(j - p))) {
                    runs.add(new int[] {i, j, p});
                }
            }
        }
        runs.sort((a, b) -> a[0] != b[0] ? a[0] - b[0] : a[2] - b[2]);
        return runs;
    }

    private static int modelSquares(String text) {
        int count = 0;
        for (int i = 0; i < text.length(); i++) {
            for (int q = 1; i + 2 * q <= text.length(); q++) {
                if (text.substring(i, i + q).equals(text.substring(i + q, i + 2 * q))) {
                    count++;
                }
            }
        }
        return count;
    }

    private static int modelSmallestEnd(String text) {
        int best = RunFinder.NONE;
        for (int i = 0; i < text.length(); i++) {
            if (best < 0 || text.substring(i).compareTo(text.substring(best)) < 0) {
                best = i;
            }
        }
        return best;
    }

    private static int modelFactors(String text) {
        int count = 0;
        String left = text;
        while (!left.isEmpty()) {
            left = left.substring(0, modelSmallestEnd(left));
            count++;
        }
        return count;
    }

    private static int modelSmallestTurn(String text) {
        int best = RunFinder.NONE;
        String smallest = "";
        for (int i = 0; i < text.length(); i++) {
            String turn = text.substring(i) + text.substring(0, i);
            if (best < 0 || turn.compareTo(smallest) < 0) {
                best = i;
                smallest = turn;
            }
        }
        return best;
    }

    /** A number from 0 to below bound, the next of a fixed sequence. */
    private static int next(int bound) {
        seed = seed * 6364136223846793005L + 1442695040888963407L;
        return (int) ((seed >>> 33) % bound);
    }

    /** Mostly a number from 0 to usual - 1, now and then one that may be wrong. */
    private static int number(int usual) {
        int[] odd = {-1, MIN, MAX, usual, usual + 1, 0, 4, 31, 32, 33};
        return next(8) == 0 || usual == 0 ? odd[next(odd.length)] : next(usual);
    }

    private static void runOfCalls() {
        RunFinder x = new RunFinder();
        String text = "";
        int letters = 1 + next(4);
        int steps = 1 + next(24);
        for (int step = 0; step < steps; step++) {
            text = change(x, text, letters);
        }
        // 24 changes, at most 31 runs asked for with 3 calls each, and the reading stay below 512 calls.
        questions(x, text);
        sameText(x, text);
    }

    /** Changes and questions mixed, so that an answer kept from before a change is seen. */
    private static void longestRunOfCalls() {
        RunFinder x = new RunFinder();
        String text = "";
        int letters = 1 + next(4);
        for (int call = 0; call < CALLS; call++) {
            if (next(2) == 0) {
                text = change(x, text, letters);
            } else {
                question(x, text);
            }
        }
    }

    private static void question(RunFinder x, String text) {
        List<int[]> runs = modelRuns(text);
        int n = number(runs.size());
        switch (next(9)) {
            case 0: due(text, "runs()", x.runs(), runs.size()); break;
            case 1: due(text, "begin(" + n + ")", x.begin(n), modelRun(runs, n, 0)); break;
            case 2: due(text, "end(" + n + ")", x.end(n), modelRun(runs, n, 1)); break;
            case 3: due(text, "period(" + n + ")", x.period(n), modelRun(runs, n, 2)); break;
            case 4: due(text, "squares()", x.squares(), modelSquares(text)); break;
            case 5: due(text, "wholePeriod()", x.wholePeriod(), modelPeriod(text)); break;
            case 6: due(text, "smallestEnd()", x.smallestEnd(), modelSmallestEnd(text)); break;
            case 7: due(text, "factors()", x.factors(), modelFactors(text)); break;
            default: due(text, "smallestTurn()", x.smallestTurn(), modelSmallestTurn(text)); break;
        }
    }

    private static String change(RunFinder x, String text, int letters) {
        switch (next(16)) {
            case 0: case 1: case 2:
                return set(x, text, number(text.length()), number(letters));
            case 3: case 4: case 5: case 6: case 7:
                return repeat(x, text, number(text.length() + 1));
            case 8:
                return drop(x, text);
            case 9:
                if (next(8) != 0) {
                    return drop(x, text);
                }
                x.clear();
                return "";
            default:
                return append(x, text, number(letters));
        }
    }

    private static boolean good(int letter) {
        return letter >= 0 && letter <= 3;
    }

    private static String append(RunFinder x, String text, int letter) {
        boolean done = good(letter) && text.length() < 32;
        String after = done ? text + letter : text;
        int want = done ? after.length() : good(letter) ? RunFinder.FULL : RunFinder.BAD_LETTER;
        due(text, "append(" + letter + ")", x.append(letter), want);
        return after;
    }

    private static String set(RunFinder x, String text, int place, int letter) {
        boolean there = place >= 0 && place < text.length();
        boolean done = there && good(letter);
        int want = done ? text.charAt(place) - '0' : there ? RunFinder.BAD_LETTER : RunFinder.BAD_PLACE;
        due(text, "set(" + place + ", " + letter + ")", x.set(place, letter), want);
        return done ? text.substring(0, place) + letter + text.substring(place + 1) : text;
    }

    private static String repeat(RunFinder x, String text, int n) {
        boolean done = n >= 1 && n <= text.length();
        String after = done ? text + text.substring(text.length() - n) : text;
        after = after.length() > 32 ? after.substring(0, 32) : after;
        due(text, "repeat(" + n + ")", x.repeat(n), done ? after.length() : RunFinder.BAD_PLACE);
        return after;
    }

    private static String drop(RunFinder x, String text) {
        String after = text.isEmpty() ? text : text.substring(0, text.length() - 1);
        due(text, "drop()", x.drop(), text.isEmpty() ? RunFinder.NONE : after.length());
        return after;
    }

    /** Reads the text after the questions: they may have changed nothing. */
    private static void sameText(RunFinder x, String text) {
        for (int k = 0; k < text.length(); k++) {
            due(text, "letter " + k + " after the questions", x.set(k, 0), text.charAt(k) - '0');
        }
        due(text, "place past the end", x.set(text.length(), 0), RunFinder.BAD_PLACE);
    }
}
