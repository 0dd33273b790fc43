/** A test for each sentence of promises 1 to 16, 20 and 21 that names a boundary; the leaks have their own. */
public final class PromiseEdgesTest extends Checks {

    // ---- 1, 2, 3, 4

    private static void newObjectHasNoRows() {
        SplitLeaks x = new SplitLeaks();
        due("rows", x.told(0), 0);
        due("rows in parts", x.told(3), 0);
        due("of(0)", x.of(0), BAD);
        due("column(0, 0, 1)", x.column(0, 0, 1), BAD);
        due("word(0, 0, true)", x.word(0, 0, true), BAD);
        due("fit(0, 0)", x.fit(0, 0), BAD);
        due("many(0, NONE)", x.many(0, NONE), 0);
        due("over(0)", x.over(0), 0);
        dueShare(x, 0, 0, 1, "ArithmeticException");
        due("the first row's number", x.row(0, 0, 0), 0);
    }

    private static void newObjectHasWeight1OfPart0() {
        SplitLeaks x = new SplitLeaks();
        due("k", x.told(1), 1);
        due("W", x.told(2), 1);
        dueQuotas(x, 100000, 100000);
        dueQuotas(x, 0, 0);
    }

    private static void newObjectHasNearness50() {
        due("nearness", new SplitLeaks().told(4), 50);
        due("what it was", new SplitLeaks().near(51), 50);
    }

    private static void newObjectHasStepsFittedWithNone() {
        SplitLeaks x = withCount(1);
        for (int s = 0; s < 8; s++) {
            due("step " + s + " goes by", x.base(s, NONE), NONE);
            due("step " + s + " fitted", x.fit(s, 0), 1);
        }
    }

    private static void objectsAreApart() {
        SplitLeaks x = placed(0, 1), y = new SplitLeaks();
        x.near(7);
        x.fit(0, 0);
        x.base(1, 0);
        due("rows", y.told(0), 0);
        due("k", y.told(1), 1);
        due("nearness", y.told(4), 50);
        y.row(0, 0, 0);
        due("fitted", y.fit(0, 0), 1);
        due("goes by", y.base(1, NONE), NONE);
    }

    private static void rowBadAlsoWhenFull() {
        SplitLeaks x = withCount(100);
        due("a bad group", x.row(30, 0, 0), BAD);
        due("a bad label", x.row(0, 5, 0), BAD);
        due("a bad time", x.row(0, 0, 100001), BAD);
        due("all bad", x.row(-1, -1, -1), BAD);
        due("a good one", x.row(29, 4, 100000), FULL);
    }

    private static void columnOfARow() {
        SplitLeaks x = halved(2);
        due("row -1", x.column(-1, 2, 9), BAD);
        due("row 2", x.column(2, 0, 9), BAD);
        due("the lowest", x.column(LOWEST, 0, 9), BAD);
        due("the highest", x.column(HIGHEST, 0, 9), BAD);
        // Times 3 these wrap around to 2 and 4.
        due("a row that wraps to row 0", x.column(1431655766, 0, 9), BAD);
        due("a row that wraps to row 1", x.column(-1431655764, 0, 9), BAD);
        due("both are as before", x.leaks(0), 1);
        due("row 1, the last", x.column(1, 0, 9), 1);
        due("it has changed", x.leaks(0), 0);
    }

    private static void columnOfTheLastRow() {
        SplitLeaks x = halved(100);
        due("row 99", x.column(99, 2, Long.MIN_VALUE), 1);
        due("row 100", x.column(100, 0, 9), BAD);
        due("equal pairs", x.leaks(0), 49 * 50);
    }

    private static void wordOfARow() {
        SplitLeaks x = withCount(100);
        due("row -1", x.word(-1, 0, true), BAD);
        due("row 0", x.word(0, 0, true), 1);
        due("row 99", x.word(99, 0, true), 1);
        due("row 100", x.word(100, 0, true), BAD);
        due("the lowest", x.word(LOWEST, 0, true), BAD);
        due("the highest", x.word(HIGHEST, 0, true), BAD);
    }

    private static void wordComesOrGoes() {
        SplitLeaks x = withCount(1);
        due("one that is not there goes", x.word(0, 9, false), 0);
        due("it comes", x.word(0, 9, true), 1);
        due("it comes again", x.word(0, 9, true), 1);
        due("it goes", x.word(0, 9, false), 0);
        due("it goes again", x.word(0, 9, false), 0);
        for (int w = 0; w < 64; w++) {
            due("all come", x.word(0, w, true), w + 1);
        }
        due("64 is none, also when it goes", x.word(0, 64, false), BAD);
        due("-1 is none, also when it goes", x.word(0, -1, false), BAD);
        due("63 goes", x.word(0, 63, false), 63);
        due("0 goes", x.word(0, 0, false), 62);
    }

    // ---- 5, 6

    private static void weightsBehindKDoNotCount() {
        SplitLeaks x = new SplitLeaks();
        due("k 1", x.parts(1, 7, -1, 1001, LOWEST), 7);
        due("k 2", x.parts(2, 7, 8, HIGHEST, -1), 15);
        due("k 3", x.parts(3, 7, 8, 9, 1001), 24);
        dueQuotas(x, 24, 7, 8, 9);
        due("k 4", x.parts(4, 7, 8, 9, 1001), BAD);
    }

    private static void rowsStayInTheirParts() {
        SplitLeaks x = placed(0, 1, 2, 3);
        x.parts(1, 9, 0, 0, 0);
        dueParts("also above k", x, 0, 1, 2, 3);
        due("rows in parts", x.told(3), 4);
        due("many(3, NONE)", x.many(3, NONE), 1);
        dueShare(x, 0, 3, 1, "4");
        dueLeaks("equal ones", x, 0, 0, 1, 0, 2, 0, 3, 1, 2, 1, 3, 2, 3);
        x.parts(4, 1, 1, 1, 1);
        dueParts("and with more parts", x, 0, 1, 2, 3);
    }

    private static void quotaOfAPart() {
        for (int k = 1; k <= 4; k++) {
            SplitLeaks x = new SplitLeaks();
            x.parts(k, 1, 1, 1, 1);
            due("part -1", x.quota(-1, 8), BAD);
            due("part 0", x.quota(0, 12), 12 / k);
            due("part k - 1", x.quota(k - 1, 12), 12 / k);
            due("part k", x.quota(k, 12), BAD);
            due("the lowest", x.quota(LOWEST, 8), BAD);
            due("the highest", x.quota(HIGHEST, 8), BAD);
        }
    }

    private static void quotaOf0To100000() {
        SplitLeaks x = new SplitLeaks();
        due("-1", x.quota(0, -1), BAD);
        due("0", x.quota(0, 0), 0);
        due("1", x.quota(0, 1), 1);
        due("100000", x.quota(0, 100000), 100000);
        due("100001", x.quota(0, 100001), BAD);
        due("the lowest", x.quota(0, LOWEST), BAD);
        due("the highest", x.quota(0, HIGHEST), BAD);
    }

    // ---- 7, 8, 9

    private static void split0To3() {
        SplitLeaks x = withCount(3);
        due("kind -1", x.split(-1, 0, 0), BAD);
        due("kind 4", x.split(4, 0, 0), BAD);
        due("kind 5", x.split(5, 0, 0), BAD);
        due("the lowest", x.split(LOWEST, 0, 0), BAD);
        due("the highest", x.split(HIGHEST, 0, 0), BAD);
        due("rows in parts", x.told(3), 0);
        due("kind 0", x.split(0, 0, 0), 3);
        due("kind 3", x.split(3, 0, 0), 3);
    }

    private static void gap0To100000() {
        for (int kind = 0; kind < 4; kind++) {
            SplitLeaks x = withCount(3);
            due("gap -1", x.split(kind, 0, -1), BAD);
            due("gap 100001", x.split(kind, 0, 100001), BAD);
            due("the lowest", x.split(kind, 0, LOWEST), BAD);
            due("the highest", x.split(kind, 0, HIGHEST), BAD);
            due("rows in parts", x.told(3), 0);
            due("gap 0", x.split(kind, 0, 0), 3);
            due("gap 100000", x.split(kind, 0, 100000), 3);
        }
    }

    private static void splitTellsRowsInParts() {
        SplitLeaks x = halved(10);
        due("all", x.split(2, 0, 0), 10);
        due("without those that went out", x.split(2, 0, 3), 8);
        due("told likewise", x.told(3), 8);
    }

    private static void foldsTellsSmallLabels() {
        for (int k = 2; k <= 4; k++) {
            SplitLeaks x = new SplitLeaks();
            // Label 1 has one row, label 2 one less than k, label 3 has k, label 4 one more, label 0 none.
            int[] sizes = {0, 1, k - 1, k, k + 1};
            for (int l = 0; l < 5; l++) {
                for (int i = 0; i < sizes[l]; i++) {
                    x.row(0, l, 0);
                }
            }
            due("labels with fewer than " + k, x.folds(k, 5), 2);
        }
        due("no rows", new SplitLeaks().folds(4, 5), 0);
    }

    private static void foldsChangesKAndWeights() {
        for (int k = 2; k <= 4; k++) {
            SplitLeaks x = new SplitLeaks();
            x.parts(4, 0, 1000, 3, 7);
            x.folds(k, 0);
            due("k", x.told(1), k);
            due("W", x.told(2), k);
            for (int p = 0; p < k; p++) {
                due("quota of part " + p, x.quota(p, k), 1);
            }
            due("quota behind k", x.quota(k, k), BAD);
        }
    }

    private static void nestedChangesKAndWeights() {
        SplitLeaks x = placed(0, 0, 0, 1);
        due("nested", x.nested(1, 3, 0), 3);
        due("k", x.told(1), 3);
        due("W", x.told(2), 3);
        dueQuotas(x, 3, 1, 1, 1);
        SplitLeaks y = placed(2, 2);
        due("no row is left", y.nested(2, 4, 0), 0);
        due("k", y.told(1), 4);
        due("W", y.told(2), 4);
    }

    private static void nestedBad() {
        SplitLeaks x = placed(0, 0, 1, 2, 3);
        due("part -1", x.nested(-1, 2, 0), BAD);
        due("part 4", x.nested(4, 2, 0), BAD);
        due("the lowest part", x.nested(LOWEST, 2, 0), BAD);
        due("the highest part", x.nested(HIGHEST, 2, 0), BAD);
        due("many 1", x.nested(0, 1, 0), BAD);
        due("many 5", x.nested(0, 5, 0), BAD);
        due("the lowest many", x.nested(0, LOWEST, 0), BAD);
        due("the highest many", x.nested(0, HIGHEST, 0), BAD);
        dueParts("as before", x, 0, 0, 1, 2, 3);
        due("part 3, many 4", x.nested(3, 4, 0), 4);
        due("part 0, many 2", x.nested(0, 2, 0), 3);
    }

    private static void nestedState() {
        SplitLeaks x = placed(0, 0, 2);
        due("part 1 has no rows", x.nested(1, 2, 0), STATE);
        due("part 3 has no rows", x.nested(3, 2, 0), STATE);
        due("bad is first", x.nested(1, 5, 0), BAD);
        dueParts("as before", x, 0, 0, 2);
        due("k", x.told(1), 4);
        due("no rows at all", new SplitLeaks().nested(0, 2, 0), STATE);
        due("all rows are out", withCount(5).nested(0, 2, 0), STATE);
    }

    // ---- 10, 11, 12

    private static void ofARow() {
        SplitLeaks x = placed(3, 0);
        x.row(0, 0, 0);
        due("row -1", x.of(-1), BAD);
        due("row 0", x.of(0), 3);
        due("row 1", x.of(1), 0);
        due("row 2 is out", x.of(2), NONE);
        due("row 3", x.of(3), BAD);
        due("the lowest", x.of(LOWEST), BAD);
        due("the highest", x.of(HIGHEST), BAD);
        SplitLeaks full = withCount(100);
        due("row 99", full.of(99), NONE);
        due("row 100", full.of(100), BAD);
    }

    private static void manyOfAPart() {
        SplitLeaks x = placed(0, 3, 3);
        due("part -1", x.many(-1, NONE), BAD);
        due("part 0", x.many(0, NONE), 1);
        due("part 1 has no rows", x.many(1, NONE), 0);
        due("part 3", x.many(3, NONE), 2);
        due("part 4", x.many(4, NONE), BAD);
        due("the lowest", x.many(LOWEST, NONE), BAD);
        due("the highest", x.many(HIGHEST, NONE), BAD);
        x.parts(1, 1, 0, 0, 0);
        due("part 3 above k", x.many(3, NONE), 2);
    }

    private static void manyOfALabel() {
        SplitLeaks x = placed(r -> r == 0 ? 0 : 4, 0, 0, 0);
        due("label -2", x.many(0, -2), BAD);
        due("all", x.many(0, NONE), 3);
        due("label 0", x.many(0, 0), 1);
        due("label 1 has no rows", x.many(0, 1), 0);
        due("label 4", x.many(0, 4), 2);
        due("label 5", x.many(0, 5), BAD);
        due("the lowest", x.many(0, LOWEST), BAD);
        due("the highest", x.many(0, HIGHEST), BAD);
        x.row(0, 4, 0);
        due("a row that is out", x.many(0, 4), 2);
        due("a row that is out", x.many(0, NONE), 3);
    }

    private static void manyOf100() {
        SplitLeaks x = withCount(100);
        x.split(0, 0, 0);
        due("all in part 0", x.many(0, NONE), 100);
        due("all of label 0", x.many(0, 0), 100);
        due("none in part 1", x.many(1, 0), 0);
    }

    private static void shareInLowestTerms() {
        SplitLeaks x = withCount(100);
        int[][] all = {{100, 1, 1}, {99, 99, 100}, {98, 49, 50}, {75, 3, 4}, {50, 1, 2}, {1, 1, 100}, {0, 0, 1}};
        for (int[] one : all) {
            x.parts(2, one[0], 100 - one[0], 0, 0);
            x.split(2, 0, 0);
            dueShare(x, 0, 0, 0, Integer.toString(one[1]));
            dueShare(x, 0, 0, 1, Integer.toString(one[2]));
        }
    }

    private static void shareOfThoseInParts() {
        SplitLeaks x = placed(r -> r < 3 ? 4 : 1, 0, 0, 3, 0);
        x.row(0, 4, 0);
        dueShare(x, 4, 0, 0, "2");
        dueShare(x, 4, 0, 1, "3");
        dueShare(x, 4, 3, 0, "1");
        dueShare(x, 4, 3, 1, "3");
        dueShare(x, 4, 1, 0, "0");
        dueShare(x, 4, 1, 1, "1");
    }

    private static void shareIndexOutOfBounds() {
        SplitLeaks x = placed(r -> r * 4, 0, 3);
        dueShare(x, 0, 0, 0, "1");
        dueShare(x, 4, 3, 1, "1");
        for (int label : new int[] {-1, 5, LOWEST, HIGHEST}) {
            dueShare(x, label, 0, 0, "IndexOutOfBoundsException");
        }
        for (int part : new int[] {-1, 4, LOWEST, HIGHEST}) {
            dueShare(x, 0, part, 0, "IndexOutOfBoundsException");
        }
        dueShare(x, 5, 0, 2, "IndexOutOfBoundsException");
        dueShare(x, 0, 4, 2, "IndexOutOfBoundsException");
        dueShare(x, 1, 4, 0, "IndexOutOfBoundsException");
    }

    private static void shareIllegalArgument() {
        SplitLeaks x = placed(0);
        for (int side : new int[] {-1, 2, LOWEST, HIGHEST}) {
            dueShare(x, 0, 0, side, "IllegalArgumentException");
            dueShare(x, 1, 0, side, "IllegalArgumentException");
        }
    }

    private static void shareArithmetic() {
        SplitLeaks x = withLabels(0, 1);
        dueShare(x, 0, 0, 0, "ArithmeticException");
        x.split(0, 0, 0);
        dueShare(x, 0, 0, 0, "1");
        x.row(0, 2, 0);
        dueShare(x, 2, 0, 0, "ArithmeticException");
        dueShare(x, 2, 0, 1, "ArithmeticException");
        dueShare(x, 3, 3, 1, "ArithmeticException");
    }

    // ---- 13, 14, 15

    /** Four rows of group 29 and one of group 0, of which the first is in part 1. */
    private static SplitLeaks grouped(int weight0, int weight1) {
        SplitLeaks x = withRows(new int[][] {{29, 0, 9}, {29, 0, 1}, {29, 0, 2}, {0, 0, 3}, {29, 0, 4}});
        x.parts(2, 4, 1, 0, 0);
        x.split(2, 0, 0);
        x.parts(2, weight0, weight1, 0, 0);
        return x;
    }

    private static void overTheQuota() {
        due("quota 5", grouped(0, 5).over(29), 0);
        due("quota 4, as many", grouped(1, 4).over(29), 0);
        due("quota 3, one above", grouped(2, 3).over(29), 1);
        due("quota 0", grouped(5, 0).over(29), 4);
    }

    private static void overOfOneRow() {
        due("quota 1", grouped(1, 4).over(0), 0);
        due("quota 0", grouped(0, 5).over(0), 1);
    }

    private static void overWithoutRows() {
        SplitLeaks x = grouped(0, 5);
        due("group 1", x.over(1), 0);
        due("group 28", x.over(28), 0);
        due("an object without rows", new SplitLeaks().over(0), 0);
    }

    private static void overWhenTheFirstIsOut() {
        SplitLeaks x = withRows(new int[][] {{3, 0, 9}, {3, 0, 1}, {3, 0, 2}});
        x.parts(2, 2, 1, 0, 0);
        x.split(2, 0, 100000);
        dueParts("before", x, NONE, 0, 0);
        x.parts(2, 0, 1, 0, 0);
        due("the first row is out", x.over(3), 0);
    }

    private static void overWhenThePartIsNotBelowK() {
        SplitLeaks x = grouped(5, 0);
        x.parts(1, 1, 0, 0, 0);
        due("part 1 of 1", x.over(29), 0);
        x.parts(2, 1, 0, 0, 0);
        due("part 1 of 2", x.over(29), 4);
    }

    private static void overOfAllRows() {
        SplitLeaks x = new SplitLeaks();
        for (int r = 0; r < 100; r++) {
            x.row(13, 0, r);
        }
        x.split(0, 0, 0);
        due("the quota is 100", x.over(13), 0);
        x.parts(2, 1, 99, 0, 0);
        due("the quota is 1", x.over(13), 99);
        x.parts(2, 0, 1, 0, 0);
        due("the quota is 0", x.over(13), 100);
    }

    private static void overOfAGroup() {
        SplitLeaks x = grouped(0, 5);
        due("group -1", x.over(-1), BAD);
        due("group 30", x.over(30), BAD);
        due("the lowest", x.over(LOWEST), BAD);
        due("the highest", x.over(HIGHEST), BAD);
    }

    private static void nearness1To100() {
        SplitLeaks x = new SplitLeaks();
        due("0", x.near(0), BAD);
        due("101", x.near(101), BAD);
        due("the lowest", x.near(LOWEST), BAD);
        due("the highest", x.near(HIGHEST), BAD);
        due("1, it was 50", x.near(1), 50);
        due("100, it was 1", x.near(100), 1);
        due("100 again", x.near(100), 100);
        due("told", x.told(4), 100);
    }

    private static void fitARow() {
        SplitLeaks x = withCount(100);
        due("row -1", x.fit(0, -1), BAD);
        due("row 0", x.fit(0, 0), 1);
        due("row 99", x.fit(0, 99), 2);
        due("row 100", x.fit(0, 100), BAD);
        due("row 100 of step 7", x.fit(7, 100), BAD);
        due("the lowest", x.fit(0, LOWEST), BAD);
        due("the highest", x.fit(0, HIGHEST), BAD);
        due("the lowest step", x.fit(LOWEST, 0), BAD);
        due("the highest step", x.fit(HIGHEST, 0), BAD);
        // Row -1 of step 1 and row 100 of step 0 stand beside these.
        due("row -1 of step 1", x.fit(1, -1), BAD);
        due("row 0 of step 1", x.fit(1, 0), 1);
    }

    private static void fitItself() {
        SplitLeaks x = withCount(3);
        x.fit(0, 0);
        x.fit(0, 1);
        x.base(1, 0);
        due("those of the step it goes by do not count", x.fit(1, 2), 1);
        due("nor is it fitted with them already", x.fit(1, 0), 2);
    }

    private static void fitAlready() {
        SplitLeaks x = withCount(3);
        due("first", x.fit(7, 2), 1);
        due("again", x.fit(7, 2), STATE);
        due("and again", x.fit(7, 2), STATE);
        due("bad is first", x.fit(8, 2), BAD);
        due("another row", x.fit(7, 1), 2);
        due("another step", x.fit(6, 2), 1);
    }

    private static void fitWith100() {
        SplitLeaks x = withCount(100);
        for (int r = 0; r < 100; r++) {
            due("row " + r, x.fit(3, r), r + 1);
        }
        due("row 0 again", x.fit(3, 0), STATE);
        due("row 99 again", x.fit(3, 99), STATE);
    }

    // ---- 20, 21

    private static void sameOfSplits0To3() {
        SplitLeaks x = withCount(3);
        x.split(0, 0, 0);
        for (int kind : new int[] {-1, 4, 5, LOWEST, HIGHEST}) {
            due("same(" + kind + ")", x.same(kind, 0, 0), false);
        }
        for (int kind = 0; kind < 4; kind++) {
            due("same(" + kind + ")", x.same(kind, 0, 0), true);
        }
    }

    private static void sameWithGaps() {
        for (int kind = 0; kind < 4; kind++) {
            SplitLeaks x = withCount(3);
            x.split(0, 0, 0);
            due("gap -1", x.same(kind, 0, -1), false);
            due("gap 0", x.same(kind, 0, 0), true);
            due("gap 100000", x.same(kind, 0, 100000), true);
            due("gap 100001", x.same(kind, 0, 100001), false);
        }
        SplitLeaks y = halved(6);
        due("gap 1", y.same(2, 3, 1), true);
        due("gap 2", y.same(2, 3, 2), false);
        y.split(2, 0, 2);
        due("those that went out are out", y.same(2, 3, 2), true);
        due("none would go out", y.same(2, 3, 1), false);
    }

    private static void sameOfNoRows() {
        for (int kind = 0; kind < 4; kind++) {
            due("no row is elsewhere", new SplitLeaks().same(kind, 1, 0), true);
            due("bad all the same", new SplitLeaks().same(kind, 1, -1), false);
        }
    }

    private static void sameWhenTheFirstRowIsElsewhere() {
        for (int kind = 0; kind < 4; kind++) {
            due("the one row is out", withCount(1).same(kind, 1, 0), false);
        }
        SplitLeaks x = withTimes(9, 1, 2);
        x.parts(2, 2, 1, 0, 0);
        x.split(2, 0, 100000);
        dueParts("before", x, NONE, 0, 0);
        due("row 0 is out", x.same(2, 0, 0), false);
        due("row 0 goes out", x.same(2, 0, 100000), true);
    }

    private static void sameWhenOneRowIsElsewhere() {
        SplitLeaks x = withCount(99);
        x.split(0, 0, 0);
        due("all in part 0", x.same(0, 1, 0), true);
        x.row(0, 0, 0);
        due("the last one is out", x.same(0, 1, 0), false);
        x.split(0, 0, 0);
        due("all 100 in part 0", x.same(0, 1, 0), true);
        x.parts(2, 99, 1, 0, 0);
        due("one would be in part 1", x.same(2, 1, 0), false);
    }

    private static void told0To4() {
        SplitLeaks x = new SplitLeaks();
        for (int what : new int[] {-1, 5, LOWEST, HIGHEST}) {
            due("told(" + what + ")", x.told(what), BAD);
        }
        x.parts(4, 1000, 1000, 1000, 1000);
        x.near(100);
        for (int r = 0; r < 100; r++) {
            x.row(0, 0, 0);
        }
        x.row(0, 0, 0);
        due("rows", x.told(0), 100);
        due("k", x.told(1), 4);
        due("W", x.told(2), 4000);
        due("rows in parts", x.told(3), 0);
        due("nearness", x.told(4), 100);
        x.split(0, 0, 0);
        due("rows in parts", x.told(3), 100);
    }

    private static void testRows() {
        test("1: No ROWS", PromiseEdgesTest::newObjectHasNoRows);
        test("1: WEIGHTS 1 of PART 0 alone", PromiseEdgesTest::newObjectHasWeight1OfPart0);
        test("1: NEARNESS 50", PromiseEdgesTest::newObjectHasNearness50);
        test("1: STEPS fitted with none, going by none", PromiseEdgesTest::newObjectHasStepsFittedWithNone);
        test("1: A new object beside another", PromiseEdgesTest::objectsAreApart);
        test("2: BAD; FULL, the first that is so", PromiseEdgesTest::rowBadAlsoWhenFull);
        test("3: of a ROW", PromiseEdgesTest::columnOfARow);
        test("3: of a ROW, the last of 100", PromiseEdgesTest::columnOfTheLastRow);
        test("4: to a ROW", PromiseEdgesTest::wordOfARow);
        test("4: comes (1) or goes (0): how many WORDS it has", PromiseEdgesTest::wordComesOrGoes);
        test("5: those behind k do not count", PromiseEdgesTest::weightsBehindKDoNotCount);
        test("5: ROWS stay in their PARTS, also above k", PromiseEdgesTest::rowsStayInTheirParts);
        test("6: of a PART", PromiseEdgesTest::quotaOfAPart);
        test("6: n 0 .. 100000", PromiseEdgesTest::quotaOf0To100000);
    }

    private static void testSplits() {
        test("7: SPLIT 0 to 3", PromiseEdgesTest::split0To3);
        test("7: a GAP that is not 0 .. 100000", PromiseEdgesTest::gap0To100000);
        test("7: how many ROWS are in PARTS then", PromiseEdgesTest::splitTellsRowsInParts);
        test("8: how many LABELS have ROWS, but fewer than that", PromiseEdgesTest::foldsTellsSmallLabels);
        test("8: k becomes how many (all WEIGHTS 1)", PromiseEdgesTest::foldsChangesKAndWeights);
        test("9: k, WEIGHTS likewise", PromiseEdgesTest::nestedChangesKAndWeights);
        test("9: BAD", PromiseEdgesTest::nestedBad);
        test("9: STATE: no ROW is in that PART", PromiseEdgesTest::nestedState);
        test("20: the same SPLIT (0 to 3)", PromiseEdgesTest::sameOfSplits0To3);
        test("20: False: also BAD, a GAP", PromiseEdgesTest::sameWithGaps);
        test("20: each ROW, none", PromiseEdgesTest::sameOfNoRows);
        test("20: each ROW, the first one", PromiseEdgesTest::sameWhenTheFirstRowIsElsewhere);
        test("20: each ROW, the last one", PromiseEdgesTest::sameWhenOneRowIsElsewhere);
    }

    private static void testAnswers() {
        test("10: NONE: it is OUT. BAD", PromiseEdgesTest::ofARow);
        test("11: a PART (0 to 3)", PromiseEdgesTest::manyOfAPart);
        test("11: of a LABEL, or of all (NONE)", PromiseEdgesTest::manyOfALabel);
        test("11: 100 ROWS", PromiseEdgesTest::manyOf100);
        test("12: in lowest terms", PromiseEdgesTest::shareInLowestTerms);
        test("12: by how many are in PARTS", PromiseEdgesTest::shareOfThoseInParts);
        test("12: IndexOutOfBounds: no such LABEL, PART (0 to 3)", PromiseEdgesTest::shareIndexOutOfBounds);
        test("12: IllegalArgument: another side", PromiseEdgesTest::shareIllegalArgument);
        test("12: Arithmetic: none is in PARTS", PromiseEdgesTest::shareArithmetic);
        test("13: above the QUOTA; 0 if not above", PromiseEdgesTest::overTheQuota);
        test("13: above the QUOTA of the PART that its first ROW is in", PromiseEdgesTest::overOfOneRow);
        test("13: 0 if there is none", PromiseEdgesTest::overWithoutRows);
        test("13: 0 if that is OUT", PromiseEdgesTest::overWhenTheFirstIsOut);
        test("13: 0 if in a PART not below k", PromiseEdgesTest::overWhenThePartIsNotBelowK);
        test("13: 100 ROWS", PromiseEdgesTest::overOfAllRows);
        test("13: BAD", PromiseEdgesTest::overOfAGroup);
        test("14: NEARNESS (1 .. 100): what it was", PromiseEdgesTest::nearness1To100);
        test("15: with a ROW. BAD", PromiseEdgesTest::fitARow);
        test("15: with how many it is, itself", PromiseEdgesTest::fitItself);
        test("15: STATE: it is already", PromiseEdgesTest::fitAlready);
        test("15: with 100 ROWS", PromiseEdgesTest::fitWith100);
        test("21: 0 ROWS, 1 k, 2 W, 3 ROWS in PARTS, 4 NEARNESS. BAD", PromiseEdgesTest::told0To4);
    }

    public static void main(String[] args) {
        testRows();
        testSplits();
        testAnswers();
        end();
    }
}
