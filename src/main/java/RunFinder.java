/** Repetitions in a text of up to 32 letters, each 0 to 3. */
public final class RunFinder {
    public static final int BAD_LETTER = -1;
    public static final int FULL = -2;
    public static final int BAD_PLACE = -3;
    public static final int NONE = -4;

    private static final int CAPACITY = 32;
    private static final int LETTERS = 4;
    // Above every period, so that a beginning and a period fit into one number.
    private static final int PAIR_BASE = 64;

    private final int[] text = new int[CAPACITY];
    private int length;

    public RunFinder() {
        length = 0;
    }

    public int append(int letter) {
        if (!isLetter(letter)) {
            return BAD_LETTER;
        }
        if (length >= CAPACITY) {
            return FULL;
        }
        text[length] = letter;
        length++;
        return length;
    }

    public int set(int place, int letter) {
        if (place < 0 || place >= length) {
            return BAD_PLACE;
        }
        if (!isLetter(letter)) {
            return BAD_LETTER;
        }
        int old = text[place];
        text[place] = letter;
        return old;
    }

    public int repeat(int n) {
        if (n < 1 || n > length) {
            return BAD_PLACE;
        }
        int first = length - n;
        int room = CAPACITY - length;
        int copied = n < room ? n : room;
        for (int k = 0; k < copied; k++) {
            text[length + k] = text[first + k];
        }
        length += copied;
        return length;
    }

    public int drop() {
        if (length == 0) {
            return NONE;
        }
        length--;
        return length;
    }

    public void clear() {
        length = 0;
    }

    public int runs() {
        int count = 0;
        for (int i = 0; i < length; i++) {
            for (int p = 1; i + 2 * p <= length; p++) {
                if (isRun(i, p)) {
                    count++;
                }
            }
        }
        return count;
    }

    public int begin(int n) {
        int run = findRun(n);
        return run == NONE ? NONE : run / PAIR_BASE;
    }

    public int end(int n) {
        int run = findRun(n);
        return run == NONE ? NONE : reach(run / PAIR_BASE, run % PAIR_BASE);
    }

    public int period(int n) {
        int run = findRun(n);
        return run == NONE ? NONE : run % PAIR_BASE;
    }

    public int squares() {
        int count = 0;
        for (int i = 0; i < length; i++) {
            for (int q = 1; i + 2 * q <= length; q++) {
                if (hasPeriod(i, i + 2 * q, q)) {
                    count++;
                }
            }
        }
        return count;
    }

    public int wholePeriod() {
        return leastPeriod(0, length);
    }

    public int smallestEnd() {
        return length == 0 ? NONE : smallestEndOf(length);
    }

    public int factors() {
        int count = 0;
        int left = length;
        // Each factor has a letter or more, so there are never more than CAPACITY of them.
        for (int k = 0; k < CAPACITY && left > 0; k++) {
            left = smallestEndOf(left);
            count++;
        }
        return count;
    }

    public int smallestTurn() {
        if (length == 0) {
            return NONE;
        }
        int best = 0;
        for (int i = 1; i < length; i++) {
            if (turnIsSmaller(i, best)) {
                best = i;
            }
        }
        return best;
    }

    private static boolean isLetter(int letter) {
        return letter >= 0 && letter < LETTERS;
    }

    /** Run number n as beginning * PAIR_BASE + period, or NONE. */
    private int findRun(int n) {
        int number = 0;
        for (int i = 0; i < length; i++) {
            for (int p = 1; i + 2 * p <= length; p++) {
                if (isRun(i, p)) {
                    if (number == n) {
                        return i * PAIR_BASE + p;
                    }
                    number++;
                }
            }
        }
        return NONE;
    }

    /**
     * Whether a run with the least period p begins at i. There is one at most: it has to go on
     * as far as the period does. Asks for i + 2 * p within the text.
     */
    private boolean isRun(int i, int p) {
        if (i > 0 && text[i - 1] == text[i - 1 + p]) {
            return false;
        }
        int j = reach(i, p);
        return j - i >= 2 * p && leastPeriod(i, j) == p;
    }

    /** The end of the longest stretch from i on that has the period p. */
    private int reach(int i, int p) {
        int j = i + p;
        for (int k = i + p; k < length && text[k] == text[k - p]; k++) {
            j = k + 1;
        }
        return j;
    }

    private boolean hasPeriod(int i, int j, int p) {
        for (int k = i + p; k < j; k++) {
            if (text[k] != text[k - p]) {
                return false;
            }
        }
        return true;
    }

    /** 0 for an empty stretch. */
    private int leastPeriod(int i, int j) {
        for (int p = 1; p < j - i; p++) {
            if (hasPeriod(i, j, p)) {
                return p;
            }
        }
        return j - i;
    }

    /** Where the smallest non-empty stretch that goes to end begins; asks for end from 1 on. */
    private int smallestEndOf(int end) {
        int best = end - 1;
        for (int i = end - 2; i >= 0; i--) {
            if (isSmaller(i, best, end)) {
                best = i;
            }
        }
        return best;
    }

    /** Whether the stretch from a to end is smaller than the shorter one from b to end. */
    private boolean isSmaller(int a, int b, int end) {
        for (int k = 0; b + k < end; k++) {
            if (text[a + k] != text[b + k]) {
                return text[a + k] < text[b + k];
            }
        }
        // The shorter one is the beginning of the longer one, so it is the smaller one.
        return false;
    }

    private boolean turnIsSmaller(int a, int b) {
        for (int k = 0; k < length; k++) {
            int left = text[around(a + k)];
            int right = text[around(b + k)];
            if (left != right) {
                return left < right;
            }
        }
        return false;
    }

    private int around(int place) {
        return place < length ? place : place - length;
    }
}
