import java.util.Arrays;
import java.util.stream.IntStream;

/** A test for each sentence of "SPLITS" that names a boundary. */
public final class SplitEdgesTest extends Checks {
    private static final int PLAIN = 0, GROUPS = 1, TIMES = 2, LABELS = 3;

    private static int[] upTo(int n) {
        return IntStream.range(0, n).toArray();
    }

    /** The rows in this order are in these parts. */
    private static void dueInOrder(String what, SplitLeaks x, int[] order, int... parts) {
        int[] got = Arrays.stream(order).map(x::of).toArray();
        due(what + ": the parts in order", Arrays.toString(got), Arrays.toString(parts));
    }

    // ---- of all ROWS anew

    private static void noRows() {
        for (int kind = PLAIN; kind <= LABELS; kind++) {
            SplitLeaks x = new SplitLeaks();
            x.parts(4, 1, 0, 2, 3);
            due("split " + kind + " of no rows", x.split(kind, 7, 100000), 0);
            due("rows in parts", x.told(3), 0);
            due("a row afterwards", x.row(0, 0, 0), 0);
            due("it is out", x.of(0), NONE);
        }
    }

    private static void oneRow() {
        for (int kind = PLAIN; kind <= LABELS; kind++) {
            SplitLeaks x = withCount(1);
            x.parts(4, 0, 0, 5, 0);
            due("split " + kind + " of one row", x.split(kind, 7, 100000), 1);
            dueParts("the only part with a weight", x, 2);
        }
    }

    private static void allRows() {
        for (int kind = PLAIN; kind <= LABELS; kind++) {
            SplitLeaks x = withCount(100);
            x.parts(4, 1, 2, 3, 4);
            due("split " + kind + " of 100 rows", x.split(kind, 7, 0), 100);
            due("rows in parts", x.told(3), 100);
            due("the parts have all", x.many(0, NONE) + x.many(1, NONE) + x.many(2, NONE) + x.many(3, NONE), 100);
        }
    }

    private static void rowsThatWereOut() {
        for (int kind = PLAIN; kind <= LABELS; kind++) {
            SplitLeaks x = halved(6);
            due("three are out", x.split(TIMES, 0, 100000), 3);
            x.row(0, 0, 9);
            due("split " + kind, x.split(kind, 3, 0), 7);
        }
    }

    private static void rowsAboveK() {
        for (int kind = PLAIN; kind <= LABELS; kind++) {
            SplitLeaks x = placed(0, 1, 2, 3);
            x.parts(1, 1, 0, 0, 0);
            dueParts("above k at first", x, 0, 1, 2, 3);
            due("split " + kind, x.split(kind, 3, 0), 4);
            dueParts("split " + kind, x, 0, 0, 0, 0);
        }
    }

    private static void splitTwice() {
        for (int kind = PLAIN; kind <= LABELS; kind++) {
            SplitLeaks x = withCount(50);
            x.parts(4, 7, 5, 3, 2);
            x.split(kind, 21, 0);
            int[] first = partsOf(x, 50);
            x.split(kind, 22, 1);
            x.folds(3, 23);
            x.parts(4, 7, 5, 3, 2);
            due("split " + kind + " again", x.split(kind, 21, 0), 50);
            dueParts("split " + kind + " again", x, first);
        }
    }

    // ---- 0 PLAIN

    private static void plainWithQuotasOf0() {
        for (long seed : SEEDS) {
            SplitLeaks x = withCount(6);
            x.parts(4, 0, 2, 0, 1);
            due("split", x.split(PLAIN, seed, 0), 6);
            dueInOrder("seed " + seed, x, new Seed(seed).shuffled(upTo(6)), 1, 1, 1, 1, 3, 3);
        }
    }

    private static void plainWithFewerRowsThanParts() {
        for (long seed : SEEDS) {
            SplitLeaks x = withCount(3);
            x.parts(4, 5, 5, 5, 5);
            due("split", x.split(PLAIN, seed, 0), 3);
            dueInOrder("seed " + seed, x, new Seed(seed).shuffled(upTo(3)), 0, 1, 2);
        }
    }

    private static void plainInOnePart() {
        SplitLeaks x = withCount(5);
        due("split with the weights of a new object", x.split(PLAIN, 9, 0), 5);
        dueParts("one part", x, 0, 0, 0, 0, 0);
    }

    // ---- 1 by GROUPS

    private static void groupsThatHaveRows() {
        int[] groups = {29, 13, 0, 12, 14};
        for (long seed : SEEDS) {
            SplitLeaks x = withGroups(groups);
            x.parts(4, 4, 3, 2, 1);
            due("split", x.split(GROUPS, seed, 0), 5);
            // By the weights 4, 3, 2, 1 of 5 rows: 20, 15, 10, 5 less 10 for each row that a part has.
            int[] want = {0, 1, 0, 2, 1};
            int[] order = new Seed(seed).shuffled(0, 12, 13, 14, 29);
            for (int i = 0; i < 5; i++) {
                int row = Arrays.asList(29, 13, 0, 12, 14).indexOf(order[i]);
                due("seed " + seed + ", group " + order[i], x.of(row), want[i]);
            }
        }
    }

    private static void oneGroupOfAllRows() {
        SplitLeaks x = new SplitLeaks();
        for (int r = 0; r < 100; r++) {
            x.row(17, r % 5, r);
        }
        x.parts(4, 999, 1000, 1000, 998);
        due("split", x.split(GROUPS, 5, 0), 100);
        due("all in the first of the heaviest parts", x.many(1, NONE), 100);
    }

    private static void allGroups() {
        for (long seed : SEEDS) {
            SplitLeaks x = withCount(100);
            x.parts(4, 1000, 1000, 1000, 1000);
            due("split", x.split(GROUPS, seed, 0), 100);
            int[] has = new int[4];
            for (int g : new Seed(seed).shuffled(upTo(30))) {
                int part = 0;
                for (int p = 1; p < 4; p++) {
                    part = has[p] < has[part] ? p : part;
                }
                has[part] += g < 10 ? 4 : 3;
                due("seed " + seed + ", group " + g, x.of(g), part);
            }
            due("groups in two parts", x.leaks(2), 0);
        }
    }

    private static void likePartsTheLeastNumber() {
        for (long seed : SEEDS) {
            SplitLeaks x = withGroups(1, 2, 3, 4, 5);
            x.parts(4, 1, 1, 1, 1);
            x.split(GROUPS, seed, 0);
            int[] rows = Arrays.stream(new Seed(seed).shuffled(1, 2, 3, 4, 5)).map(g -> g - 1).toArray();
            dueInOrder("seed " + seed, x, rows, 0, 1, 2, 3, 0);
        }
    }

    private static void noGroupForWeight0() {
        for (long seed : SEEDS) {
            SplitLeaks x = withCount(60);
            x.parts(4, 0, 1, 0, 1000);
            due("split", x.split(GROUPS, seed, 0), 60);
            due("part 0", x.many(0, NONE), 0);
            due("part 1", x.many(1, NONE), 0);
            due("part 2", x.many(2, NONE), 0);
            due("part 3", x.many(3, NONE), 60);
        }
    }

    // ---- 2 by TIMES

    private static void timesInOrder() {
        SplitLeaks x = withTimes(100000, 0, 99999, 1);
        x.parts(4, 1, 1, 1, 1);
        due("split", x.split(TIMES, 0, 0), 4);
        dueParts("by time", x, 3, 0, 2, 1);
        due("split with another seed", x.split(TIMES, Long.MIN_VALUE, 0), 4);
        dueParts("the seed does not count", x, 3, 0, 2, 1);
    }

    private static void allTimesAlike() {
        for (int time : new int[] {0, 100000}) {
            SplitLeaks x = withTimes(time, time, time, time);
            x.parts(4, 1, 1, 1, 1);
            due("split", x.split(TIMES, 0, 100000), 4);
            dueParts("all with the first", x, 0, 0, 0, 0);
            x.parts(4, 0, 0, 1, 9);
            x.split(TIMES, 0, 100000);
            dueParts("the first that has a quota of them", x, 3, 3, 3, 3);
            x.parts(3, 0, 1, 3, 0);
            x.split(TIMES, 0, 100000);
            dueParts("the first that has a quota of them", x, 1, 1, 1, 1);
        }
    }

    private static void likeTimesOverTheQuota() {
        SplitLeaks x = withTimes(1, 2, 2, 3, 3, 4);
        x.parts(3, 1, 1, 1, 0);
        x.split(TIMES, 0, 0);
        dueParts("the second of time 2 is with the first, places go on", x, 0, 0, 0, 1, 1, 2);
        SplitLeaks y = withTimes(7, 7, 7, 7, 7, 8);
        y.parts(3, 1, 1, 1, 0);
        y.split(TIMES, 0, 0);
        dueParts("over a whole part", y, 0, 0, 0, 0, 0, 2);
        SplitLeaks z = withTimes(5, 6, 7, 6, 8, 9);
        z.parts(2, 1, 1, 0, 0);
        z.split(TIMES, 0, 0);
        dueParts("times just beside are not like ones", z, 0, 0, 1, 0, 1, 1);
    }

    private static void likeTimesByNumber() {
        SplitLeaks x = withTimes(5, 5, 4);
        x.parts(3, 1, 1, 1, 0);
        x.split(TIMES, 0, 0);
        dueParts("rows 2, 0, 1", x, 1, 1, 0);
    }

    private static void rowJustInTheGap() {
        SplitLeaks x = withTimes(10, 14, 15, 16);
        x.parts(2, 1, 3, 0, 0);
        due("gap 5", x.split(TIMES, 0, 5), 3);
        dueParts("14 is below 5 and 10, 15 is not", x, 0, NONE, 1, 1);
        due("gap 4", x.split(TIMES, 0, 4), 4);
        due("gap 6", x.split(TIMES, 0, 6), 2);
        dueParts("gap 6", x, 0, NONE, NONE, 1);
    }

    private static void gapOf0() {
        SplitLeaks x = withTimes(0, 1, 2, 3);
        x.parts(4, 1, 1, 1, 1);
        due("gap 0", x.split(TIMES, 0, 0), 4);
        due("gap 1", x.split(TIMES, 0, 1), 4);
        due("gap 2", x.split(TIMES, 0, 2), 1);
    }

    private static void widestGap() {
        SplitLeaks x = withTimes(0, 99999, 100000);
        x.parts(2, 1, 2, 0, 0);
        due("gap 100000", x.split(TIMES, 0, 100000), 2);
        dueParts("gap 100000", x, 0, NONE, 1);
        due("gap 100001", x.split(TIMES, 0, 100001), BAD);
        dueParts("as before", x, 0, NONE, 1);
        SplitLeaks y = withTimes(99999, 100000);
        y.parts(2, 1, 1, 0, 0);
        due("gap 100000 behind 99999", y.split(TIMES, 0, 100000), 1);
        dueParts("gap 100000 behind 99999", y, 0, NONE);
    }

    private static void part0NeverGoesOut() {
        SplitLeaks x = withTimes(0, 1, 2, 3);
        due("one part alone", x.split(TIMES, 0, 100000), 4);
        x.parts(2, 3, 1, 0, 0);
        due("two parts", x.split(TIMES, 0, 100000), 3);
        dueParts("two parts", x, 0, 0, 0, NONE);
    }

    private static void noRowsInLesserParts() {
        SplitLeaks x = withTimes(0, 1, 2);
        x.parts(4, 0, 0, 0, 1);
        due("the first rows are in part 3", x.split(TIMES, 0, 100000), 3);
        x.parts(4, 0, 1, 0, 2);
        due("parts 1 and 3", x.split(TIMES, 0, 2), 2);
        dueParts("parts 1 and 3", x, 1, NONE, 3);
    }

    private static void emptyPartBetween() {
        SplitLeaks x = withTimes(10, 19, 20);
        x.parts(3, 1, 0, 2, 0);
        due("part 1 is empty, part 0 counts", x.split(TIMES, 0, 10), 2);
        dueParts("part 1 is empty", x, 0, NONE, 2);
    }

    private static void thoseThatWentOutCountToo() {
        SplitLeaks x = withTimes(0, 5, 14, 15);
        x.parts(3, 1, 1, 2, 0);
        due("gap 10", x.split(TIMES, 0, 10), 2);
        dueParts("5 is out and keeps 14 out", x, 0, NONE, NONE, 2);
    }

    private static void greatestTimeOfLesserParts() {
        SplitLeaks x = withTimes(0, 10, 12, 21, 22);
        x.parts(3, 1, 2, 2, 0);
        due("gap 10", x.split(TIMES, 0, 10), 4);
        dueParts("21 is below 10 and 12", x, 0, 1, 1, NONE, 2);
        SplitLeaks y = withTimes(22, 12, 21, 10, 0);
        y.parts(3, 1, 2, 2, 0);
        due("gap 10, later rows first", y.split(TIMES, 0, 10), 4);
        dueParts("21 is below 10 and 12, later rows first", y, 2, 1, NONE, 1, 0);
    }

    private static void gapCountsForTimesAlone() {
        for (int kind : new int[] {PLAIN, GROUPS, LABELS}) {
            SplitLeaks x = withCount(20), y = withCount(20);
            x.parts(3, 1, 1, 1, 0);
            y.parts(3, 1, 1, 1, 0);
            due("gap 0", x.split(kind, 4, 0), 20);
            due("gap 100000", y.split(kind, 4, 100000), 20);
            dueParts("split " + kind, y, partsOf(x, 20));
        }
    }

    // ---- 3 by LABELS

    private static void labelsInOrder() {
        for (long seed : SEEDS) {
            SplitLeaks x = withLabels(4, 0, 2, 4, 0, 2, 4, 0, 2);
            x.parts(2, 1, 2, 0, 0);
            due("split", x.split(LABELS, seed, 0), 9);
            Seed z = new Seed(seed);
            dueInOrder("label 0", x, z.shuffled(1, 4, 7), 0, 1, 1);
            dueInOrder("label 2, z going on", x, z.shuffled(2, 5, 8), 0, 1, 1);
            dueInOrder("label 4, z going on", x, z.shuffled(0, 3, 6), 0, 1, 1);
        }
    }

    private static void quotasOfEachLabel() {
        SplitLeaks x = withLabels(0, 1, 2, 3, 4);
        x.parts(2, 1, 1, 0, 0);
        due("split", x.split(LABELS, 1, 0), 5);
        dueParts("of one thing part 0 has the quota", x, 0, 0, 0, 0, 0);
        x.parts(2, 0, 1, 0, 0);
        x.split(LABELS, 1, 0);
        dueParts("a weight of 0", x, 1, 1, 1, 1, 1);
    }

    // ---- 4 FOLDS

    private static void folds2To4() {
        SplitLeaks x = withCount(8);
        due("folds 1", x.folds(1, 0), BAD);
        due("folds 2", x.folds(2, 0), 0);
        due("k", x.told(1), 2);
        due("part 1", x.many(1, NONE), 4);
        due("folds 4", x.folds(4, 0), 0);
        due("k", x.told(1), 4);
        due("part 3", x.many(3, NONE), 2);
        due("folds 5", x.folds(5, 0), BAD);
        due("the lowest", x.folds(LOWEST, 0), BAD);
        due("the highest", x.folds(HIGHEST, 0), BAD);
        due("k", x.told(1), 4);
    }

    private static void weightsDoNotCount() {
        for (long seed : SEEDS) {
            SplitLeaks x = withCount(10), y = withCount(10);
            y.parts(3, 0, 0, 1000, 0);
            x.folds(3, seed);
            y.folds(3, seed);
            dueParts("seed " + seed, y, partsOf(x, 10));
        }
    }

    private static void dealtFromThePartBehindTheLast() {
        for (long seed : SEEDS) {
            SplitLeaks x = withLabels(4, 4, 4, 2, 2, 0, 0, 0, 0);
            x.folds(3, seed);
            Seed z = new Seed(seed);
            dueInOrder("label 0, part 0 first", x, z.shuffled(5, 6, 7, 8), 0, 1, 2, 0);
            dueInOrder("label 2, behind part 0", x, z.shuffled(3, 4), 1, 2);
            dueInOrder("label 4, part 0 is behind the last one", x, z.shuffled(0, 1, 2), 0, 1, 2);
        }
    }

    private static void dealtOneOfEachLabel() {
        SplitLeaks x = withLabels(0, 1, 2, 3, 4);
        due("labels with fewer than 4", x.folds(4, 3), 5);
        dueParts("4 folds", x, 0, 1, 2, 3, 0);
        SplitLeaks y = withLabels(4);
        due("one label with fewer than 2", y.folds(2, 3), 1);
        dueParts("labels without rows", y, 0);
    }

    private static void foldsOf100() {
        for (long seed : SEEDS) {
            SplitLeaks x = withCount(100);
            due("folds", x.folds(4, seed), 0);
            int[] want = IntStream.range(0, 100).map(i -> i % 4).toArray();
            dueInOrder("seed " + seed, x, new Seed(seed).shuffled(upTo(100)), want);
        }
    }

    private static void foldsDealAllRows() {
        SplitLeaks x = halved(6);
        x.split(TIMES, 0, 100000);
        due("rows that are out", x.told(3), 3);
        x.folds(2, 0);
        due("all are dealt", x.told(3), 6);
    }

    // ---- 5 NESTED

    private static void nestedInTheFirstAndLastPart() {
        for (long seed : new long[] {0, 1, -4}) {
            for (int o : new int[] {0, 3}) {
                SplitLeaks x = placed(0, 1, 2, 3, 3, 2, 1, 0);
                due("nested in part " + o, x.nested(o, 2, seed), 6);
                int[] inside = o == 0 ? new int[] {1, 2, 3, 4, 5, 6} : new int[] {0, 1, 2, 5, 6, 7};
                dueInOrder("part " + o, x, new Seed(seed + o).shuffled(inside), 0, 1, 0, 1, 0, 1);
                due("a row of part " + o, x.of(o), NONE);
                due("a row of part " + o, x.of(7 - o), NONE);
            }
        }
    }

    private static void seedAndPartWrapAround() {
        for (int o = 1; o <= 3; o++) {
            SplitLeaks x = placed(0, 0, 0, 0, 0, 0, o);
            due("nested", x.nested(o, 2, Long.MAX_VALUE), 6);
            Seed z = new Seed(Long.MIN_VALUE + (o - 1));
            dueInOrder("the highest seed and " + o, x, z.shuffled(upTo(6)), 0, 1, 0, 1, 0, 1);
        }
        SplitLeaks y = placed(0, 0, 0, 0, 0, 0, 1);
        y.nested(1, 2, -1);
        dueInOrder("the seed -1 and 1", y, new Seed(0).shuffled(upTo(6)), 0, 1, 0, 1, 0, 1);
    }

    private static void rowsThatWereOutStayOut() {
        SplitLeaks x = placed(0, 0, 1, 1);
        x.row(0, 0, 0);
        due("nested", x.nested(0, 2, 0), 2);
        due("the new row", x.of(4), NONE);
        due("nested again", x.nested(0, 2, 0), 1);
        due("and again, in the last one's part", x.nested(0, 2, 0), 0);
        dueParts("all are out", x, NONE, NONE, NONE, NONE, NONE);
    }

    private static void nestedInAPartAboveK() {
        SplitLeaks x = placed(0, 0, 3);
        x.parts(1, 1, 0, 0, 0);
        due("part 3 is above k and has a row", x.nested(3, 2, 0), 2);
        due("its row", x.of(2), NONE);
        SplitLeaks y = placed(0, 3, 3);
        y.parts(1, 1, 0, 0, 0);
        due("rows above k are dealt, too", y.nested(0, 2, 0), 2);
    }

    private static void nestedLabelByLabel() {
        for (long seed : SEEDS) {
            SplitLeaks x = placed(r -> r < 3 ? 3 : r < 5 ? 1 : 0, 0, 0, 1, 1, 0, 2, 0);
            due("nested", x.nested(2, 4, seed - 2), 6);
            Seed z = new Seed(seed);
            dueInOrder("label 0, part 0 first", x, z.shuffled(6), 0);
            dueInOrder("label 1", x, z.shuffled(3, 4), 1, 2);
            dueInOrder("label 3", x, z.shuffled(0, 1, 2), 3, 0, 1);
        }
    }

    private static void nestedOf100() {
        for (long seed : SEEDS) {
            SplitLeaks x = withCount(100);
            x.parts(2, 99, 1, 0, 0);
            x.split(TIMES, 0, 0);
            due("nested", x.nested(1, 3, seed), 99);
            int[] want = IntStream.range(0, 99).map(i -> i % 3).toArray();
            dueInOrder("seed " + seed, x, new Seed(seed + 1).shuffled(upTo(99)), want);
            due("the row of part 1", x.of(99), NONE);
        }
    }

    private static void testPlainAndGroups() {
        test("SPLITS, of all ROWS anew: no ROWS", SplitEdgesTest::noRows);
        test("SPLITS, of all ROWS anew: one ROW", SplitEdgesTest::oneRow);
        test("SPLITS, of all ROWS anew: 100 ROWS", SplitEdgesTest::allRows);
        test("SPLITS, of all ROWS anew: those that were OUT", SplitEdgesTest::rowsThatWereOut);
        test("SPLITS, of all ROWS anew: those above k", SplitEdgesTest::rowsAboveK);
        test("SPLITS, of all ROWS anew: a second time", SplitEdgesTest::splitTwice);
        test("0: as many as its QUOTA, 0 too", SplitEdgesTest::plainWithQuotasOf0);
        test("0: the first ones are in PART 0, fewer than PARTS", SplitEdgesTest::plainWithFewerRowsThanParts);
        test("0: one PART alone", SplitEdgesTest::plainInOnePart);
        test("1: those that have ROWS, by number", SplitEdgesTest::groupsThatHaveRows);
        test("1: all ROWS of a GROUP, 100", SplitEdgesTest::oneGroupOfAllRows);
        test("1: 30 GROUPS, the heaviest WEIGHTS", SplitEdgesTest::allGroups);
        test("1: of like ones the least number", SplitEdgesTest::likePartsTheLeastNumber);
        test("1: a WEIGHT of 0", SplitEdgesTest::noGroupForWeight0);
    }

    private static void testTimesAndLabels() {
        test("2: ROWS by TIME", SplitEdgesTest::timesInOrder);
        test("2: all with one TIME", SplitEdgesTest::allTimesAlike);
        test("2: a ROW with the TIME of the one before it is in that one's PART",
                SplitEdgesTest::likeTimesOverTheQuota);
        test("2: of like ones by number", SplitEdgesTest::likeTimesByNumber);
        test("2: OUT whose TIME is below g and the greatest TIME", SplitEdgesTest::rowJustInTheGap);
        test("2: the GAP 0", SplitEdgesTest::gapOf0);
        test("2: the GAP 100000", SplitEdgesTest::widestGap);
        test("2: from PART 1 on", SplitEdgesTest::part0NeverGoesOut);
        test("2: no ROWS in a PART of a lesser number", SplitEdgesTest::noRowsInLesserParts);
        test("2: a PART of a lesser number, not the one before alone", SplitEdgesTest::emptyPartBetween);
        test("2: those that went OUT too", SplitEdgesTest::thoseThatWentOutCountToo);
        test("2: the greatest TIME of ROWS in a PART of a lesser number", SplitEdgesTest::greatestTimeOfLesserParts);
        test("the GAP counts for 2 alone", SplitEdgesTest::gapCountsForTimesAlone);
        test("3: LABEL by LABEL, z going on", SplitEdgesTest::labelsInOrder);
        test("3: QUOTAS of these", SplitEdgesTest::quotasOfEachLabel);
    }

    private static void testFoldsAndNested() {
        test("4: k is how many (2 .. 4)", SplitEdgesTest::folds2To4);
        test("4: WEIGHTS do not count", SplitEdgesTest::weightsDoNotCount);
        test("4: from the PART behind that of the last one dealt on", SplitEdgesTest::dealtFromThePartBehindTheLast);
        test("4: one of each LABEL, and LABELS without ROWS", SplitEdgesTest::dealtOneOfEachLabel);
        test("4: 100 ROWS", SplitEdgesTest::foldsOf100);
        test("4: of all ROWS anew", SplitEdgesTest::foldsDealAllRows);
        test("5: ROWS of PART o are OUT then, o 0 and 3", SplitEdgesTest::nestedInTheFirstAndLastPart);
        test("5: z being the seed and o, wrapping around", SplitEdgesTest::seedAndPartWrapAround);
        test("5: all others (that were in a PART)", SplitEdgesTest::rowsThatWereOutStayOut);
        test("5: the PART o of what was there, above k", SplitEdgesTest::nestedInAPartAboveK);
        test("5: dealt like FOLDS, LABEL by LABEL, k of them", SplitEdgesTest::nestedLabelByLabel);
        test("5: 100 ROWS", SplitEdgesTest::nestedOf100);
    }

    public static void main(String[] args) {
        testPlainAndGroups();
        testTimesAndLabels();
        testFoldsAndNested();
        end();
    }
}
