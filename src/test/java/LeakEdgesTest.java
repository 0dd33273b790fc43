import java.util.stream.IntStream;

/** A test for each sentence of "LEAKS", and of leaks, leak and meets, that names a boundary. */
public final class LeakEdgesTest extends Checks {
    private static final int EQUAL = 0, NEAR = 1, GROUP = 2, LATE = 3, TELLING = 4, FITTED = 5;

    private static void give(SplitLeaks x, int row, int... words) {
        for (int w : words) {
            x.word(row, w, true);
        }
    }

    private static void setColumn(SplitLeaks x, int column, long... numbers) {
        for (int r = 0; r < numbers.length; r++) {
            x.column(r, column, numbers[r]);
        }
    }

    // ---- those that are OUT do not count

    /** Rows that would leak in each kind if they were in two parts. */
    private static SplitLeaks leaky() {
        SplitLeaks x = withRows(new int[][] {{3, 0, 9}, {3, 0, 9}, {3, 1, 9}, {3, 1, 9}});
        setColumn(x, 0, 1, 1, 2, 2);
        for (int r = 0; r < 4; r++) {
            give(x, r, 1);
            x.fit(0, r);
        }
        return x;
    }

    private static void allOut() {
        SplitLeaks x = leaky();
        for (int kind = EQUAL; kind <= FITTED; kind++) {
            dueLeaks("all rows are out", x, kind);
        }
    }

    private static void noRowsAtAll() {
        SplitLeaks x = new SplitLeaks();
        for (int kind = EQUAL; kind <= FITTED; kind++) {
            dueLeaks("no rows", x, kind);
        }
        due("meets", x.meets(), 0);
    }

    // Row 1 is out by the gap; in a part it is equal to row 0, of its group, and fitted with.
    private static void oneOutBetween() {
        SplitLeaks x = withRows(new int[][] {{3, 0, 0}, {3, 1, 1}, {4, 0, 9}});
        x.parts(2, 1, 2, 0, 0);
        setColumn(x, 1, 7, 7, 8);
        give(x, 0, 1);
        give(x, 1, 1);
        give(x, 2, 5);
        x.fit(0, 1);
        due("split", x.split(2, 0, 5), 2);
        dueParts("before", x, 0, NONE, 1);
        for (int kind = EQUAL; kind <= FITTED; kind++) {
            dueLeaks("row 1 is out", x, kind);
        }
        x.split(2, 0, 0);
        dueLeaks("row 1 is in part 1", x, EQUAL, 0, 1);
        dueLeaks("row 1 is in part 1", x, GROUP, 3, 2);
        dueLeaks("row 1 is in part 1", x, FITTED, 0, 1);
    }

    // ---- 0 EQUAL

    private static void equalInUnlikeParts() {
        SplitLeaks x = placed(0, 0, 3);
        dueLeaks("not those in one part", x, EQUAL, 0, 2, 1, 2);
        x.parts(1, 1, 0, 0, 0);
        dueLeaks("parts above k, too", x, EQUAL, 0, 2, 1, 2);
        x.split(0, 0, 0);
        dueLeaks("all in one part", x, EQUAL);
    }

    private static void equalInAllColumns() {
        for (int c = 0; c < 3; c++) {
            SplitLeaks x = placed(0, 1);
            x.column(1, c, 1L << 63);
            dueLeaks("column " + c + " differs", x, EQUAL);
            x.column(0, c, 1L << 63);
            dueLeaks("column " + c + " is alike", x, EQUAL, 0, 1);
        }
    }

    private static void equalWithTheSameWords() {
        for (int w : new int[] {0, 31, 32, 63}) {
            SplitLeaks x = placed(0, 1);
            give(x, 1, w);
            dueLeaks("word " + w + " of one", x, EQUAL);
            give(x, 0, w);
            dueLeaks("word " + w + " of both", x, EQUAL, 0, 1);
        }
    }

    private static void equalByAThenB() {
        SplitLeaks x = placed(3, 2, 1, 0);
        dueLeaks("each with each", x, EQUAL, 0, 1, 0, 2, 0, 3, 1, 2, 1, 3, 2, 3);
    }

    private static void mostEqual() {
        SplitLeaks x = withCount(100);
        x.parts(4, 1, 1, 1, 1);
        x.split(0, 0, 0);
        due("all but those in one part", x.leaks(EQUAL), 4950 - 4 * 300);
        due("the one behind the last", x.leak(EQUAL, 3750, 0), BAD);
        due("the last one's second is above its first", x.leak(EQUAL, 3749, 0) < x.leak(EQUAL, 3749, 1), true);
        due("the first one's first", x.leak(EQUAL, 0, 0), 0);
    }

    // ---- 1 NEAR

    private static void nearEachWithAWord() {
        SplitLeaks x = placed(0, 1, 2);
        x.near(1);
        x.column(0, 0, 1);
        dueLeaks("both without words", x, NEAR);
        give(x, 0, 5);
        dueLeaks("one without words", x, NEAR);
        give(x, 2, 5);
        dueLeaks("each with one", x, NEAR, 0, 2);
        x.word(0, 5, false);
        dueLeaks("it has gone", x, NEAR);
    }

    private static void nearNotEqual() {
        SplitLeaks x = placed(0, 1);
        give(x, 0, 5);
        give(x, 1, 5);
        dueLeaks("equal", x, NEAR);
        x.column(1, 2, 1);
        dueLeaks("another number", x, NEAR, 0, 1);
        x.near(100);
        dueLeaks("all words in both", x, NEAR, 0, 1);
    }

    private static void nearAtOrAbove() {
        SplitLeaks x = placed(0, 1);
        give(x, 0, 0, 1, 2);
        give(x, 1, 1, 2, 3);
        dueLeaks("2 of 4 at 50", x, NEAR, 0, 1);
        x.near(51);
        dueLeaks("2 of 4 at 51", x, NEAR);
        x.near(49);
        dueLeaks("2 of 4 at 49", x, NEAR, 0, 1);
        x.word(1, 3, false);
        x.near(66);
        dueLeaks("2 of 3 at 66", x, NEAR, 0, 1);
        x.near(67);
        dueLeaks("2 of 3 at 67", x, NEAR);
    }

    private static void nearWithOneWord() {
        for (int w : new int[] {0, 63}) {
            SplitLeaks x = placed(0, 1);
            x.column(0, 0, 1);
            give(x, 0, w);
            give(x, 1, w, 9);
            dueLeaks("the first has word " + w + " alone", x, NEAR, 0, 1);
            give(x, 0, 9);
            x.word(1, 9, false);
            dueLeaks("the second has word " + w + " alone", x, NEAR, 0, 1);
        }
    }

    private static void nearWithNoWordInBoth() {
        SplitLeaks x = placed(0, 1);
        give(x, 0, 0);
        give(x, 1, 63);
        x.near(1);
        dueLeaks("0 of 2 at 1", x, NEAR);
    }

    private static void nearWithAllWords() {
        SplitLeaks x = placed(0, 1);
        give(x, 0, IntStream.range(0, 64).toArray());
        give(x, 1, 63);
        x.near(1);
        dueLeaks("1 of 64 at 1", x, NEAR, 0, 1);
        x.near(2);
        dueLeaks("1 of 64 at 2", x, NEAR);
        give(x, 1, IntStream.range(1, 64).toArray());
        x.near(98);
        dueLeaks("63 of 64 at 98", x, NEAR, 0, 1);
        x.near(99);
        dueLeaks("63 of 64 at 99", x, NEAR);
        give(x, 1, 0);
        dueLeaks("all of both, equal", x, NEAR);
        x.column(0, 0, -1);
        x.near(100);
        dueLeaks("all of both at 100", x, NEAR, 0, 1);
    }

    private static void nearInUnlikeParts() {
        SplitLeaks x = placed(1, 0, 1, 0);
        for (int r = 0; r < 4; r++) {
            give(x, r, 7);
            x.column(r, 1, r);
        }
        dueLeaks("by a, then b, not those in one part", x, NEAR, 0, 1, 0, 3, 1, 2, 2, 3);
    }

    private static void nearThoseThatAreOut() {
        SplitLeaks x = placed(0, 1);
        x.row(0, 0, 0);
        x.column(2, 0, 1);
        give(x, 0, 7);
        give(x, 2, 7);
        dueLeaks("row 2 is out", x, NEAR);
        x.folds(3, 0);
        dueLeaks("row 2 is in a part", x, NEAR, 0, 2);
    }

    // ---- 2 a GROUP

    private static void groupInTwoPartsOrMore() {
        SplitLeaks x = withRows(new int[][] {
            {29, 0, 0}, {0, 0, 0}, {5, 0, 0}, {29, 0, 1}, {0, 0, 1}, {29, 0, 2}, {29, 0, 3}});
        x.parts(4, 3, 2, 1, 1);
        x.split(2, 0, 0);
        dueParts("before", x, 0, 0, 0, 1, 1, 2, 3);
        dueLeaks("one part, two and four", x, GROUP, 0, 2, 29, 4);
        x.split(1, 0, 0);
        dueLeaks("never parted", x, GROUP);
    }

    private static void groupTwiceInOnePart() {
        SplitLeaks x = withGroups(6, 6, 6);
        x.split(0, 0, 0);
        dueLeaks("three rows in one part", x, GROUP);
    }

    private static void groupInAPartAboveK() {
        SplitLeaks x = withRows(new int[][] {{6, 0, 0}, {6, 0, 1}});
        x.parts(4, 0, 1, 0, 1);
        x.split(2, 0, 0);
        x.parts(1, 1, 0, 0, 0);
        dueLeaks("parts 1 and 3", x, GROUP, 6, 2);
    }

    private static void mostGroups() {
        SplitLeaks x = withCount(60);
        x.parts(2, 1, 1, 0, 0);
        x.split(2, 0, 0);
        due("all 30", x.leaks(GROUP), 30);
        due("the last", x.leak(GROUP, 29, 0), 29);
        due("its parts", x.leak(GROUP, 29, 1), 2);
        due("none behind it", x.leak(GROUP, 30, 0), BAD);
    }

    // ---- 3 LATE

    /** The first row is in part 0, up to three others are each in a part of their own behind it. */
    private static SplitLeaks lateRows(int first, int... others) {
        SplitLeaks x = new SplitLeaks();
        x.row(0, 0, first);
        for (int i = 0; i < others.length; i++) {
            x.row(0, i + 1, others[i]);
        }
        x.folds(4, 0);
        return x;
    }

    private static void lateNotBelow() {
        dueLeaks("one below", lateRows(6, 9, 7), LATE);
        dueLeaks("like times", lateRows(7, 9, 7), LATE, 0, 2);
        dueLeaks("one above", lateRows(8, 9, 7), LATE, 0, 2);
        dueLeaks("both at 0", lateRows(0, 0), LATE, 0, 1);
        dueLeaks("both at 100000", lateRows(100000, 100000), LATE, 0, 1);
        dueLeaks("0 and 100000", lateRows(0, 100000), LATE);
        dueLeaks("100000 and 0", lateRows(100000, 0), LATE, 0, 1);
    }

    private static void lateFirstRowWithTheLeastTime() {
        dueLeaks("of like ones the first", lateRows(7, 9, 3, 3), LATE, 0, 2);
        dueLeaks("the row of part 0 is not in another", lateRows(3, 9, 3, 3), LATE, 0, 2);
        SplitLeaks x = withRows(new int[][] {{0, 1, 3}, {0, 0, 3}, {0, 2, 3}});
        x.folds(3, 0);
        dueParts("before", x, 1, 0, 2);
        dueLeaks("row 0 is in another part", x, LATE, 1, 0);
    }

    private static void lateInOnePartAlone() {
        SplitLeaks x = withTimes(5, 1, 9);
        x.split(0, 0, 0);
        dueLeaks("all in part 0", x, LATE);
        x.parts(2, 0, 1, 0, 0);
        x.split(0, 0, 0);
        dueLeaks("all in part 1", x, LATE);
        x.parts(4, 0, 0, 1, 1);
        x.split(2, 0, 0);
        dueLeaks("none in part 0", x, LATE);
    }

    private static void lateOfAllOtherParts() {
        dueLeaks("part 1 has the least time", lateRows(5, 4, 8, 9), LATE, 0, 1);
        dueLeaks("part 2 has the least time", lateRows(5, 8, 4, 9), LATE, 0, 2);
        SplitLeaks x = lateRows(5, 9, 8, 4);
        dueLeaks("part 3 has the least time", x, LATE, 0, 3);
        x.parts(1, 1, 0, 0, 0);
        dueLeaks("parts above k, too", x, LATE, 0, 3);
    }

    private static void lateEachRowOfPart0() {
        SplitLeaks x = withRows(new int[][] {{0, 0, 6}, {0, 1, 5}, {0, 2, 4}, {0, 3, 9}, {0, 4, 4}});
        x.folds(4, 0);
        dueParts("before", x, 0, 1, 2, 3, 0);
        dueLeaks("both rows of part 0", x, LATE, 0, 2, 4, 2);
        SplitLeaks y = withRows(new int[][] {{0, 0, 3}, {0, 1, 5}, {0, 2, 4}, {0, 3, 9}, {0, 4, 4}});
        y.folds(4, 0);
        dueLeaks("one of them", y, LATE, 4, 2);
    }

    private static void lateThoseThatAreOut() {
        SplitLeaks x = lateRows(5, 9, 6);
        x.parts(3, 1, 1, 1, 0);
        x.row(0, 0, 1);
        dueLeaks("a new row with the least time is out", x, LATE);
        x.split(2, 0, 0);
        dueParts("anew", x, 0, 2, 1, 0);
        dueLeaks("times go by parts", x, LATE);
    }

    // ---- 4 TELLING

    private static SplitLeaks telling(int[] labels, long... numbers) {
        SplitLeaks x = withLabels(labels);
        // The other columns hold one number for all and one for each, which tell nothing.
        setColumn(x, 1, numbers);
        setColumn(x, 2, IntStream.range(0, numbers.length).asLongStream().toArray());
        x.split(0, 0, 0);
        return x;
    }

    private static void tellingAtLeastTwoNumbers() {
        dueLeaks("two", telling(new int[] {0, 0, 1, 1}, 5, 5, 6, 6), TELLING, 1, 2);
        dueLeaks("one and one that stands once", telling(new int[] {0, 0, 1}, 5, 5, 6), TELLING);
        dueLeaks("none", telling(new int[] {0, 1}, 5, 6), TELLING);
        dueLeaks("one alone", telling(new int[] {0, 0}, 5, 5), TELLING);
        dueLeaks("three", telling(new int[] {0, 0, 1, 1, 2, 2}, 5, 5, 6, 6, 7, 7), TELLING, 1, 3);
    }

    private static void tellingInTwoRowsOrMore() {
        dueLeaks("three and two", telling(new int[] {4, 0, 4, 0, 4}, 5, 6, 5, 6, 5), TELLING, 1, 2);
        dueLeaks("three and one", telling(new int[] {4, 4, 0, 4}, 5, 5, 6, 5), TELLING);
    }

    private static void tellingNotAllWithTheSameLabel() {
        dueLeaks("all with label 3", telling(new int[] {3, 3, 3, 3, 1}, 5, 5, 6, 6, 7), TELLING);
        dueLeaks("two of three with label 3", telling(new int[] {3, 3, 3, 3, 1, 1}, 5, 5, 6, 6, 7, 7), TELLING, 1, 3);
        dueLeaks("the first one has another", telling(new int[] {1, 1, 3, 3, 3, 3}, 5, 5, 6, 6, 7, 7), TELLING, 1, 3);
    }

    private static void tellingNoneWithTwoLabels() {
        dueLeaks("a third number with two labels", telling(new int[] {0, 0, 1, 1, 2, 3}, 5, 5, 6, 6, 7, 7), TELLING);
        dueLeaks("the first number again at the end", telling(new int[] {0, 0, 1, 1, 2}, 5, 5, 6, 6, 5), TELLING);
        dueLeaks("a third number with one", telling(new int[] {0, 0, 1, 1, 2, 2}, 5, 5, 6, 6, 7, 7), TELLING, 1, 3);
    }

    private static void tellingHowManyNumbers() {
        dueLeaks("those that stand once, too", telling(new int[] {0, 0, 1, 1, 0, 2}, 5, 5, 6, 6, 7, 8), TELLING, 1, 4);
        dueLeaks("the first stands once", telling(new int[] {2, 0, 0, 1, 1}, 8, 5, 5, 6, 6), TELLING, 1, 3);
        SplitLeaks x = new SplitLeaks();
        for (int r = 0; r < 100; r++) {
            x.row(0, r / 50, 0);
            x.column(r, 0, r / 2);
        }
        x.split(0, 0, 0);
        dueLeaks("50 numbers in 100 rows", x, TELLING, 0, 50);
    }

    private static void tellingNumbersAreLongs() {
        long low = Long.MIN_VALUE, high = Long.MAX_VALUE, longOne = 1L << 32 | 1;
        dueLeaks("the lowest and the highest", telling(new int[] {0, 1, 0, 1}, low, high, low, high), TELLING, 1, 2);
        dueLeaks("alike in the lower half", telling(new int[] {0, 1, 0, 1}, 1, longOne, 1, longOne), TELLING, 1, 2);
    }

    private static void tellingEachColumn() {
        SplitLeaks x = withLabels(0, 0, 1, 1);
        for (int c = 0; c < 3; c++) {
            setColumn(x, c, c, c, 9, 9);
        }
        x.split(0, 0, 0);
        dueLeaks("columns in order", x, TELLING, 0, 2, 1, 2, 2, 2);
    }

    private static void tellingThoseThatAreOut() {
        SplitLeaks x = telling(new int[] {0, 0, 1, 1}, 5, 5, 6, 6);
        x.row(0, 2, 0);
        x.column(4, 1, 5);
        dueLeaks("a number with two labels, one of them out", x, TELLING, 1, 2);
        x.column(4, 1, 7);
        dueLeaks("a number of a row that is out", x, TELLING, 1, 2);
        x.split(0, 0, 0);
        dueLeaks("now it is in a part", x, TELLING, 1, 3);
    }

    // ---- 5 FITTED

    private static void fittedNotInPart0() {
        SplitLeaks x = placed(0, 1, 2, 3);
        for (int r = 3; r >= 0; r--) {
            x.fit(0, r);
            x.fit(7, r);
        }
        dueLeaks("by steps, then rows", x, FITTED, 0, 1, 0, 2, 0, 3, 7, 1, 7, 2, 7, 3);
        x.split(2, 0, 100000);
        dueLeaks("those that are out", x, FITTED);
    }

    private static void fittedByAChainOfSteps() {
        SplitLeaks x = placed(0, 1);
        x.fit(0, 1);
        for (int s = 1; s < 8; s++) {
            x.base(s, s - 1);
        }
        dueLeaks("seven goings by", x, FITTED, 0, 1, 1, 1, 2, 1, 3, 1, 4, 1, 5, 1, 6, 1, 7, 1);
        x.base(4, NONE);
        dueLeaks("the chain is cut at step 4", x, FITTED, 0, 1, 1, 1, 2, 1, 3, 1);
        x.base(4, 0);
        x.base(2, NONE);
        dueLeaks("a shorter way", x, FITTED, 0, 1, 1, 1, 4, 1, 5, 1, 6, 1, 7, 1);
    }

    private static void fittedOnceForEach() {
        SplitLeaks x = placed(0, 1, 1);
        x.fit(0, 1);
        x.fit(1, 1);
        x.base(1, 0);
        dueLeaks("itself and by the one it goes by", x, FITTED, 0, 1, 1, 1);
        x.fit(1, 2);
        dueLeaks("a lesser step is not fitted by a greater", x, FITTED, 0, 1, 1, 1, 1, 2);
    }

    private static void fittedAfterANewSplit() {
        SplitLeaks x = placed(0, 1);
        x.fit(3, 0);
        dueLeaks("in part 0", x, FITTED);
        x.parts(2, 0, 1, 0, 0);
        x.split(0, 0, 0);
        dueLeaks("as they are in parts now", x, FITTED, 3, 0);
    }

    private static void mostFitted() {
        SplitLeaks x = new SplitLeaks();
        for (int r = 0; r < 100; r++) {
            x.row(0, 0, 0);
            x.fit(0, r);
        }
        x.parts(2, 0, 1, 0, 0);
        x.split(0, 0, 0);
        for (int s = 1; s < 8; s++) {
            x.base(s, s - 1);
        }
        due("8 steps with 100 rows", x.leaks(FITTED), 800);
        due("the last step", x.leak(FITTED, 799, 0), 7);
        due("the last row", x.leak(FITTED, 799, 1), 99);
        due("none behind it", x.leak(FITTED, 800, 0), BAD);
    }

    private static void steps0To7() {
        SplitLeaks x = placed(0, 1);
        due("step -1", x.fit(-1, 1), BAD);
        due("step 8", x.fit(8, 1), BAD);
        due("step 0", x.fit(0, 1), 1);
        due("step 7", x.fit(7, 1), 1);
        due("base of -1", x.base(-1, NONE), BAD);
        due("base of 8", x.base(8, 7), BAD);
        dueLeaks("two steps", x, FITTED, 0, 1, 7, 1);
    }

    private static void goingByALesserNumber() {
        SplitLeaks x = new SplitLeaks();
        for (int s = 0; s < 8; s++) {
            due("step " + s + " by itself", x.base(s, s), BAD);
            due("step " + s + " by the next", x.base(s, s + 1), BAD);
            due("step " + s + " by -2", x.base(s, -2), BAD);
            due("step " + s + " by the one before, or none", x.base(s, s - 1), NONE);
            due("step " + s + " by none", x.base(s, NONE), s - 1);
        }
    }

    // ---- leaks, leak

    // Two like rows of each label, one of them in part 0 and one in part 1, whichever the seed takes.
    private static void eachKindAlone() {
        SplitLeaks x = withRows(new int[][] {{3, 0, 5}, {3, 0, 5}, {4, 1, 5}, {4, 1, 5}});
        setColumn(x, 1, 7, 7, 8, 8);
        for (int r = 0; r < 4; r++) {
            give(x, r, 2);
            x.fit(6, r);
        }
        x.folds(2, 0);
        dueLeaks("equal", x, EQUAL, 0, 1, 2, 3);
        due("near", x.leaks(NEAR), 2);
        dueLeaks("groups", x, GROUP, 3, 2, 4, 2);
        due("late", x.leaks(LATE), 2);
        dueLeaks("telling", x, TELLING, 1, 2);
        due("fitted", x.leaks(FITTED), 2);
    }

    private static void kinds0To5() {
        SplitLeaks x = leaky();
        x.folds(2, 0);
        for (int bad : new int[] {-1, 6, LOWEST, HIGHEST}) {
            due("leaks(" + bad + ")", x.leaks(bad), BAD);
            due("leak(" + bad + ", 0, 0)", x.leak(bad, 0, 0), BAD);
        }
        due("leaks(0)", x.leaks(0), 2);
        due("leaks(5)", x.leaks(5), 2);
    }

    private static void noneSuch() {
        SplitLeaks x = leaky();
        x.folds(2, 0);
        for (int kind = EQUAL; kind <= FITTED; kind++) {
            int n = x.leaks(kind);
            due("leak(" + kind + ", -1, 0)", x.leak(kind, -1, 0), BAD);
            due("leak(" + kind + ", lowest, 0)", x.leak(kind, LOWEST, 0), BAD);
            due("leak(" + kind + ", highest, 0)", x.leak(kind, HIGHEST, 0), BAD);
            due("the one behind the last of kind " + kind, x.leak(kind, n, 0), BAD);
            due("the last of kind " + kind, n == 0 || x.leak(kind, n - 1, 0) >= 0, true);
        }
    }

    private static void firstAndSecondNumber() {
        SplitLeaks x = placed(0, 1);
        due("what -1", x.leak(EQUAL, 0, -1), BAD);
        due("what 0", x.leak(EQUAL, 0, 0), 0);
        due("what 1", x.leak(EQUAL, 0, 1), 1);
        due("what 2", x.leak(EQUAL, 0, 2), BAD);
        due("the lowest", x.leak(EQUAL, 0, LOWEST), BAD);
        due("the highest", x.leak(EQUAL, 0, HIGHEST), BAD);
    }

    // ---- meets

    private static SplitLeaks meeting(long first, long second) {
        SplitLeaks x = withCount(2);
        x.column(0, 2, first);
        x.column(1, 2, second);
        x.split(0, 0, 0);
        return x;
    }

    private static void meetsByTheLowest6Bits() {
        due("63 and 0", meeting(63, 0).meets(), 0);
        due("64 and 0", meeting(64, 0).meets(), 1);
        due("65 and 0", meeting(65, 0).meets(), 0);
        due("32 and 0", meeting(32, 0).meets(), 0);
        due("-64 and 0", meeting(-64, 0).meets(), 1);
        due("-1 and 63", meeting(-1, 63).meets(), 1);
        due("-1 and 1", meeting(-1, 1).meets(), 0);
    }

    /** Two rows in one part, one with a number in a column and the other with one in another column. */
    private static int meetsWith(int column, long number, int otherColumn, long otherNumber) {
        SplitLeaks x = withCount(2);
        x.split(0, 0, 0);
        x.column(0, column, number);
        x.column(1, otherColumn, otherNumber);
        return x.meets();
    }

    // Modulo 64 the numbers of columns 0 and 2 count 31 times, that of column 1 and the words once.
    private static void meetsByEachColumnInOrder() {
        for (int c = 0; c < 3; c++) {
            due("1 and 0 in column " + c, meetsWith(c, 1, c, 0), 0);
            due("64 and 0 in column " + c, meetsWith(c, 64, c, 0), 1);
        }
        due("1 in column 0, 1 in column 2", meetsWith(0, 1, 2, 1), 1);
        due("1 in column 0, 1 in column 1", meetsWith(0, 1, 1, 1), 0);
        due("1 in column 2, 1 in column 1", meetsWith(2, 1, 1, 1), 0);
        due("1 in column 0, 31 in column 1", meetsWith(0, 1, 1, 31), 1);
        due("1 in column 2, 31 in column 1", meetsWith(2, 1, 1, 31), 1);
        due("1 in column 0, 30 in column 1", meetsWith(0, 1, 1, 30), 0);
    }

    private static void meetsByTheLowestBit() {
        for (int number = 0; number < 64; number++) {
            SplitLeaks x = withCount(2);
            x.split(0, 0, 0);
            x.column(0, 1, number);
            x.column(1, 1, number);
            give(x, 0, 0);
            due("both with " + number + ", one with word 0", x.meets(), 0);
        }
    }

    private static void meetsWrappingAround() {
        due("the lowest and 0", meeting(Long.MIN_VALUE, 0).meets(), 1);
        due("the highest and -1", meeting(Long.MAX_VALUE, -1).meets(), 1);
        due("the lowest and the highest", meeting(Long.MIN_VALUE, Long.MAX_VALUE).meets(), 0);
        SplitLeaks x = withCount(2);
        x.split(0, 0, 0);
        for (int c = 0; c < 3; c++) {
            x.column(0, c, Long.MAX_VALUE);
            x.column(1, c, -1);
        }
        due("the highest in all columns", x.meets(), 1);
    }

    private static void meetsByWords() {
        for (int w = 0; w < 64; w++) {
            SplitLeaks x = withCount(2);
            x.split(0, 0, 0);
            give(x, 1, w);
            due("word " + w + " and none", x.meets(), w < 6 ? 0 : 1);
        }
        SplitLeaks y = meeting(1, 0);
        // 31 for the number 1 is the words 0 to 4.
        give(y, 1, 0, 1, 2, 3, 4);
        due("a number and words with the same digest", y.meets(), 1);
    }

    private static void meetsNotEqual() {
        SplitLeaks x = meeting(64, 64);
        due("equal ones", x.meets(), 0);
        x.column(0, 0, 64);
        due("unlike ones", x.meets(), 1);
    }

    private static void meetsInAnyParts() {
        SplitLeaks x = placed(0, 0, 3);
        setColumn(x, 1, 0, 64, 128);
        due("in one part and in two", x.meets(), 3);
        x.row(0, 0, 0);
        x.column(3, 1, 192);
        due("a row that is out", x.meets(), 3);
    }

    private static void mostMeetings() {
        SplitLeaks x = withCount(100);
        for (int r = 0; r < 100; r++) {
            x.column(r, 0, 64L * r);
        }
        due("100 rows that are out", x.meets(), 0);
        x.split(0, 0, 0);
        due("100 rows in parts", x.meets(), 4950);
    }

    private static void testPairs() {
        test("those that are OUT do not count: all of them", LeakEdgesTest::allOut);
        test("those that are OUT do not count: one of them", LeakEdgesTest::oneOutBetween);
        test("LEAKS of no ROWS", LeakEdgesTest::noRowsAtAll);
        test("0: in unlike PARTS", LeakEdgesTest::equalInUnlikeParts);
        test("0: like numbers in all COLUMNS", LeakEdgesTest::equalInAllColumns);
        test("0: the same WORDS", LeakEdgesTest::equalWithTheSameWords);
        test("0: by a, then b", LeakEdgesTest::equalByAThenB);
        test("0: 100 ROWS", LeakEdgesTest::mostEqual);
        test("1: each with a WORD", LeakEdgesTest::nearEachWithAWord);
        test("1: not EQUAL", LeakEdgesTest::nearNotEqual);
        test("1: times 100 at or above NEARNESS times", LeakEdgesTest::nearAtOrAbove);
        test("1: each with one WORD at least", LeakEdgesTest::nearWithOneWord);
        test("1: no WORDS in both", LeakEdgesTest::nearWithNoWordInBoth);
        test("1: all 64 WORDS", LeakEdgesTest::nearWithAllWords);
        test("1: in unlike PARTS", LeakEdgesTest::nearInUnlikeParts);
        test("1: those that are OUT do not count", LeakEdgesTest::nearThoseThatAreOut);
    }

    private static void testGroupsAndTimes() {
        test("2: in two PARTS or more", LeakEdgesTest::groupInTwoPartsOrMore);
        test("2: in one PART alone", LeakEdgesTest::groupTwiceInOnePart);
        test("2: in PARTS above k", LeakEdgesTest::groupInAPartAboveK);
        test("2: all GROUPS", LeakEdgesTest::mostGroups);
        test("3: not below the least TIME", LeakEdgesTest::lateNotBelow);
        test("3: the first ROW with that least TIME", LeakEdgesTest::lateFirstRowWithTheLeastTime);
        test("3: no ROWS in PART 0, or none in others", LeakEdgesTest::lateInOnePartAlone);
        test("3: of all ROWS in other PARTS", LeakEdgesTest::lateOfAllOtherParts);
        test("3: a ROW of PART 0, each", LeakEdgesTest::lateEachRowOfPart0);
        test("3: those that are OUT do not count", LeakEdgesTest::lateThoseThatAreOut);
    }

    private static void testTellingAndFitted() {
        test("4: at least two of whose numbers", LeakEdgesTest::tellingAtLeastTwoNumbers);
        test("4: stand in two ROWS or more", LeakEdgesTest::tellingInTwoRowsOrMore);
        test("4: these not all with the same LABEL", LeakEdgesTest::tellingNotAllWithTheSameLabel);
        test("4: none of whose numbers stands with two LABELS", LeakEdgesTest::tellingNoneWithTwoLabels);
        test("4: how many numbers stand in it", LeakEdgesTest::tellingHowManyNumbers);
        test("4: numbers are longs", LeakEdgesTest::tellingNumbersAreLongs);
        test("4: each COLUMN", LeakEdgesTest::tellingEachColumn);
        test("4: those that are OUT do not count", LeakEdgesTest::tellingThoseThatAreOut);
        test("5: a ROW that is not in PART 0, by STEPS, then ROWS", LeakEdgesTest::fittedNotInPart0);
        test("5: or that goes by one, and so on", LeakEdgesTest::fittedByAChainOfSteps);
        test("5: itself or a STEP that it goes by", LeakEdgesTest::fittedOnceForEach);
        test("5: as they are in PARTS now", LeakEdgesTest::fittedAfterANewSplit);
        test("5: all STEPS with 100 ROWS", LeakEdgesTest::mostFitted);
        test("STEPS 0 .. 7", LeakEdgesTest::steps0To7);
        test("going by none or one of a lesser number", LeakEdgesTest::goingByALesserNumber);
    }

    private static void testCalls() {
        test("leaks: How many LEAKS of a kind, of no other", LeakEdgesTest::eachKindAlone);
        test("leaks, leak: by kinds (0 to 5)", LeakEdgesTest::kinds0To5);
        test("leak: BAD: also none such", LeakEdgesTest::noneSuch);
        test("leak: its first number (what 0), the second (1)", LeakEdgesTest::firstAndSecondNumber);
        test("meets: h modulo 64 by its lowest 6 bits", LeakEdgesTest::meetsByTheLowest6Bits);
        test("meets: h modulo 64, the lowest bit too", LeakEdgesTest::meetsByTheLowestBit);
        test("meets: with the number of each COLUMN in order", LeakEdgesTest::meetsByEachColumnInOrder);
        test("meets: h * 31 + it, wrapping around", LeakEdgesTest::meetsWrappingAround);
        test("meets: as a long whose bit w is WORD w", LeakEdgesTest::meetsByWords);
        test("meets: but are not EQUAL", LeakEdgesTest::meetsNotEqual);
        test("meets: pairs of ROWS in PARTS", LeakEdgesTest::meetsInAnyParts);
        test("meets: 100 ROWS", LeakEdgesTest::mostMeetings);
    }

    public static void main(String[] args) {
        testPairs();
        testGroupsAndTimes();
        testTellingAndFitted();
        testCalls();
        end();
    }
}
