/**
 * Promises 1 to 6: each sentence that names a boundary has a test of its own, with a value on each side. Every
 * step also compares the text and all answers afterwards, so that a refused call that changes something is seen.
 */
public final class ChangesBoundaryTest extends Checks {
    private static final int BAD_LETTER = RunFinder.BAD_LETTER;
    private static final int FULL = RunFinder.FULL;
    private static final int BAD_PLACE = RunFinder.BAD_PLACE;
    private static final int NONE = RunFinder.NONE;

    /** Among them numbers that look right if only their lowest bits are looked at. */
    private static final int[] WRONG_LETTERS = {-1, 4, -2, -4, 5, 7, 8, 256, -256, 65536, MIN, MIN + 1, MAX};
    private static final String ONE_LESS = FULL_TEXT.substring(0, 31);

    public static void main(String[] args) {
        test("Promise 1: The text is empty", ChangesBoundaryTest::newObjectIsEmpty);

        test("Promise 2: letter not in 0 to 3: BAD_LETTER", ChangesBoundaryTest::appendLetter);
        test("Promise 2: the text has 32: FULL", ChangesBoundaryTest::appendToFull);
        test("Promise 2: Tests in this order", ChangesBoundaryTest::appendOrder);
        test("Promise 2: nothing changes then", ChangesBoundaryTest::appendRefused);
        test("Promise 2: Else answers the text's length", ChangesBoundaryTest::appendAnswers);

        test("Promise 3: place not one of the text: BAD_PLACE", ChangesBoundaryTest::setPlace);
        test("Promise 3: place not one of the text, which is empty", ChangesBoundaryTest::setInEmpty);
        test("Promise 3: place not one of the text any more", ChangesBoundaryTest::setPastDropped);
        test("Promise 3: letter not in 0 to 3: BAD_LETTER", ChangesBoundaryTest::setLetter);
        test("Promise 3: Tests in this order", ChangesBoundaryTest::setOrder);
        test("Promise 3: nothing changes then", ChangesBoundaryTest::setRefused);
        test("Promise 3: Else answers the old one", ChangesBoundaryTest::setAnswers);

        test("Promise 4: as many of them as there is room for", ChangesBoundaryTest::repeatRoom);
        test("Promise 4: as many of them as there is room for: none", ChangesBoundaryTest::repeatFull);
        test("Promise 4: from the first one on", ChangesBoundaryTest::repeatFromFirst);
        test("Promise 4: n not in 1 to the text's length: too small", ChangesBoundaryTest::repeatTooSmall);
        test("Promise 4: n not in 1 to the text's length: too large", ChangesBoundaryTest::repeatTooLarge);
        test("Promise 4: n not in 1 to the text's length, which is 0", ChangesBoundaryTest::repeatEmpty);
        test("Promise 4: BAD_PLACE, nothing changes", ChangesBoundaryTest::repeatRefused);

        test("Promise 5: The text is empty: NONE", ChangesBoundaryTest::dropEmpty);
        test("Promise 5: Takes the last letter off, of a full text", ChangesBoundaryTest::dropFull);
        test("Promise 5: Else answers the text's length", ChangesBoundaryTest::dropAnswers);

        test("Promise 6: The text becomes empty", ChangesBoundaryTest::clearBecomesEmpty);
        test("Promise 6: The text becomes empty, and nothing of it stays", ChangesBoundaryTest::clearLeavesNothing);
        end();
    }

    private static void newObjectIsEmpty() {
        due("new object: set(0, 0)", new RunFinder().set(0, 0), BAD_PLACE);
        due("new object: repeat(1)", new RunFinder().repeat(1), BAD_PLACE);
        due("new object: drop()", new RunFinder().drop(), NONE);
        due("new object: append(0)", new RunFinder().append(0), 1);
        due("new object: the answers", answersOf(new RunFinder()),
            "runs , squares 0, wholePeriod 0, smallestEnd -4, factors 0, smallestTurn -4");
    }

    private static void appendLetter() {
        append("12", -1, BAD_LETTER, "12");
        append("12", 0, 3, "120");
        append("12", 1, 3, "121");
        append("12", 2, 3, "122");
        append("12", 3, 3, "123");
        append("12", 4, BAD_LETTER, "12");
    }

    private static void appendToFull() {
        for (int letter = 0; letter <= 3; letter++) {
            append(FULL_TEXT.substring(0, 30), letter, 31, FULL_TEXT.substring(0, 30) + letter);
            append(ONE_LESS, letter, 32, ONE_LESS + letter);
            append(FULL_TEXT, letter, FULL, FULL_TEXT);
        }
        RunFinder x = of(FULL_TEXT);
        x.drop();
        due("append where there is room again", x.append(0), 32);
        due("append where there is none again", x.append(0), FULL);
        sameAs("append after drop", x, ONE_LESS + "0");
    }

    private static void appendOrder() {
        // Both are wrong: the letter is told. One of them is wrong: that one is told.
        append(FULL_TEXT, -1, BAD_LETTER, FULL_TEXT);
        append(FULL_TEXT, 4, BAD_LETTER, FULL_TEXT);
        append(FULL_TEXT, 0, FULL, FULL_TEXT);
        append(FULL_TEXT, 3, FULL, FULL_TEXT);
        append(ONE_LESS, -1, BAD_LETTER, ONE_LESS);
        append(ONE_LESS, 4, BAD_LETTER, ONE_LESS);
    }

    private static void appendRefused() {
        for (int letter : WRONG_LETTERS) {
            append("", letter, BAD_LETTER, "");
            append("3", letter, BAD_LETTER, "3");
            append("00", letter, BAD_LETTER, "00");
            append(ONE_LESS, letter, BAD_LETTER, ONE_LESS);
            append(FULL_TEXT, letter, BAD_LETTER, FULL_TEXT);
        }
        RunFinder x = of("01");
        x.append(4);
        due("append after a refused one", x.append(2), 3);
        sameAs("append after a refused one", x, "012");
    }

    private static void appendAnswers() {
        RunFinder x = new RunFinder();
        for (int k = 1; k <= 32; k++) {
            due("append number " + k, x.append(k % 4), k);
        }
        for (int k = 33; k <= 70; k++) {
            due("append number " + k, x.append(k % 4), FULL);
        }
    }

    private static void setPlace() {
        set("012", -1, 3, BAD_PLACE, "012");
        set("012", 0, 3, 0, "312");
        set("012", 2, 3, 2, "013");
        set("012", 3, 3, BAD_PLACE, "012");
        set("012", 4, 3, BAD_PLACE, "012");
        set("2", 0, 3, 2, "3");
        set("2", 1, 3, BAD_PLACE, "2");
        set(ONE_LESS, 30, 0, 2, ONE_LESS.substring(0, 30) + "0");
        set(ONE_LESS, 31, 0, BAD_PLACE, ONE_LESS);
        set(FULL_TEXT, 31, 0, 3, ONE_LESS + "0");
        set(FULL_TEXT, 32, 0, BAD_PLACE, FULL_TEXT);
        set(FULL_TEXT, -1, 0, BAD_PLACE, FULL_TEXT);
    }

    private static void setInEmpty() {
        set("", -1, 0, BAD_PLACE, "");
        set("", 0, 0, BAD_PLACE, "");
        set("", 0, 3, BAD_PLACE, "");
        set("", 1, 0, BAD_PLACE, "");
        set("1", 0, 0, 1, "0");
    }

    private static void setPastDropped() {
        RunFinder x = of("0123");
        x.drop();
        due("set at the dropped place", x.set(3, 1), BAD_PLACE);
        due("set at the last place that is left", x.set(2, 1), 2);
        sameAs("set after drop", x, "011");
        x.clear();
        due("set at the first place after clear", x.set(0, 1), BAD_PLACE);
        sameAs("set after clear", x, "");
    }

    private static void setLetter() {
        set("121", 1, -1, BAD_LETTER, "121");
        set("121", 1, 0, 2, "101");
        set("121", 1, 1, 2, "111");
        set("121", 1, 2, 2, "121");
        set("121", 1, 3, 2, "131");
        set("121", 1, 4, BAD_LETTER, "121");
    }

    private static void setOrder() {
        // Both are wrong: the place is told. One of them is wrong: that one is told.
        set("012", -1, -1, BAD_PLACE, "012");
        set("012", -1, 4, BAD_PLACE, "012");
        set("012", 3, -1, BAD_PLACE, "012");
        set("012", 3, 4, BAD_PLACE, "012");
        set("012", 3, 0, BAD_PLACE, "012");
        set("012", 2, 4, BAD_LETTER, "012");
        set("012", 0, -1, BAD_LETTER, "012");
        set("", 0, 4, BAD_PLACE, "");
        set(FULL_TEXT, 32, 4, BAD_PLACE, FULL_TEXT);
        set(FULL_TEXT, 31, 4, BAD_LETTER, FULL_TEXT);
    }

    private static void setRefused() {
        for (int letter : WRONG_LETTERS) {
            set("3", 0, letter, BAD_LETTER, "3");
            set("0011", 0, letter, BAD_LETTER, "0011");
            set("0011", 3, letter, BAD_LETTER, "0011");
            set(FULL_TEXT, 31, letter, BAD_LETTER, FULL_TEXT);
        }
        for (int place : new int[] {-1, 4, -2, -4, 5, 31, 32, 33, 64, 256, -256, 65536, MIN, MIN + 1, MAX}) {
            set("0011", place, 2, BAD_PLACE, "0011");
            set("0011", place, 0, BAD_PLACE, "0011");
        }
        for (int place : new int[] {-1, 32, -32, 33, 63, 64, 256, 65536, MIN, MAX}) {
            set(FULL_TEXT, place, 0, BAD_PLACE, FULL_TEXT);
        }
    }

    private static void setAnswers() {
        RunFinder x = of("0");
        due("set from 0 to 3", x.set(0, 3), 0);
        due("set from 3 to 3", x.set(0, 3), 3);
        due("set from 3 to 0", x.set(0, 0), 3);
        due("set from 0 to 0", x.set(0, 0), 0);
        sameAs("set", x, "0");
    }

    private static void repeatRoom() {
        String most = "3000000000000000000000000123";
        // Room for 4 letters: less than that, just that, more than that.
        repeat(most, 3, 31, most + "123");
        repeat(most, 4, 32, most + "0123");
        repeat(most, 5, 32, most + "0012");
        repeat(most, 28, 32, most + "3000");
        // Half of the text, and a letter to each side.
        String half = "0123012301230123";
        repeat(half.substring(1), 15, 30, half.substring(1) + half.substring(1));
        repeat(half, 16, 32, half + half);
        repeat(half + "1", 17, 32, half + "1" + half.substring(0, 15));
        // Room for one letter.
        repeat(ONE_LESS, 1, 32, ONE_LESS + "2");
        repeat(ONE_LESS, 2, 32, ONE_LESS + "1");
        repeat(ONE_LESS, 31, 32, ONE_LESS + "0");
    }

    private static void repeatFull() {
        repeat(FULL_TEXT, 1, 32, FULL_TEXT);
        repeat(FULL_TEXT, 2, 32, FULL_TEXT);
        repeat(FULL_TEXT, 31, 32, FULL_TEXT);
        repeat(FULL_TEXT, 32, 32, FULL_TEXT);
        repeat(FULL_TEXT, 33, BAD_PLACE, FULL_TEXT);
        repeat(FULL_TEXT, 0, BAD_PLACE, FULL_TEXT);
    }

    private static void repeatFromFirst() {
        // With room for one of three letters it is the first of the three, not the last.
        repeat("0000000000000000000000000000123", 3, 32, "00000000000000000000000000001231");
        repeat("000000000000000000000000000123", 3, 32, "00000000000000000000000000012312");
        repeat("00000000000000000000000000123", 3, 32, "00000000000000000000000000123123");
    }

    private static void repeatTooSmall() {
        repeat("012", MIN, BAD_PLACE, "012");
        repeat("012", -1, BAD_PLACE, "012");
        repeat("012", 0, BAD_PLACE, "012");
        repeat("012", 1, 4, "0122");
        repeat("012", 2, 5, "01212");
    }

    private static void repeatTooLarge() {
        repeat("012", 3, 6, "012012");
        repeat("012", 4, BAD_PLACE, "012");
        repeat("012", 5, BAD_PLACE, "012");
        repeat("2", 1, 2, "22");
        repeat("2", 2, BAD_PLACE, "2");
        repeat(ONE_LESS, 32, BAD_PLACE, ONE_LESS);
        RunFinder x = of("0123");
        x.drop();
        due("repeat of more than is left", x.repeat(4), BAD_PLACE);
        due("repeat of all that is left", x.repeat(3), 6);
        sameAs("repeat after drop", x, "012012");
    }

    private static void repeatEmpty() {
        repeat("", -1, BAD_PLACE, "");
        repeat("", 0, BAD_PLACE, "");
        repeat("", 1, BAD_PLACE, "");
        RunFinder x = of("0123");
        x.clear();
        due("repeat after clear", x.repeat(1), BAD_PLACE);
        sameAs("repeat after clear", x, "");
    }

    private static void repeatRefused() {
        for (int n : new int[] {0, 5, -1, -2, -4, 6, 28, 31, 32, 33, 256, 257, 65537, MIN, MIN + 1, MAX}) {
            repeat("0011", n, BAD_PLACE, "0011");
        }
        for (int n : new int[] {0, 33, -1, -32, 34, 64, 257, 65537, MIN, MIN + 1, MAX}) {
            repeat(FULL_TEXT, n, BAD_PLACE, FULL_TEXT);
        }
    }

    private static void dropEmpty() {
        drop("", NONE, "");
        drop("3", 0, "");
        drop("33", 1, "3");
        RunFinder x = of("3");
        due("drop of the only letter", x.drop(), 0);
        due("drop of none", x.drop(), NONE);
        due("drop of none again", x.drop(), NONE);
        sameAs("drop of none", x, "");
        due("append after it", x.append(2), 1);
        sameAs("append after it", x, "2");
    }

    private static void dropFull() {
        drop(FULL_TEXT, 31, ONE_LESS);
        drop(ONE_LESS, 30, ONE_LESS.substring(0, 30));
        RunFinder x = of(FULL_TEXT);
        due("append without room", x.append(0), FULL);
        x.drop();
        sameAs("drop after a refused append", x, ONE_LESS);
    }

    private static void dropAnswers() {
        RunFinder x = of(FULL_TEXT);
        for (int k = 31; k >= 0; k--) {
            due("drop to " + k, x.drop(), k);
        }
        due("drop of none", x.drop(), NONE);
    }

    private static void clearBecomesEmpty() {
        clear("");
        clear("0");
        clear("00");
        clear(ONE_LESS);
        clear(FULL_TEXT);
    }

    private static void clearLeavesNothing() {
        RunFinder x = of(FULL_TEXT);
        x.clear();
        due("drop after clear", x.drop(), NONE);
        due("append after clear", x.append(1), 1);
        due("set past the new letter", x.set(1, 0), BAD_PLACE);
        due("repeat of more than the new letter", x.repeat(2), BAD_PLACE);
        sameAs("append after clear", x, "1");
        for (int k = 2; k <= 32; k++) {
            due("append number " + k + " after clear", x.append(0), k);
        }
        due("append to the text that is full again", x.append(0), FULL);
    }
}
