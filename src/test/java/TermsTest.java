/** A test for each sentence of "What it is" and "Terms" that names a boundary. */
public final class TermsTest extends Checks {

    private static void calls512() {
        SplitLeaks x = withCount(100);
        for (int r = 0; r < 100; r++) {
            x.column(r, r % 3, r);
            x.word(r, r % 64, true);
            x.fit(r % 8, r);
        }
        for (int call = 401; call < 510; call++) {
            x.near(call % 100 + 1);
        }
        due("call 510, parts", x.parts(4, 1000, 1000, 1000, 1000), 4000);
        due("call 511, split", x.split(2, 0, 0), 100);
        due("call 512, the rows in other parts that steps were fitted with", x.leaks(5), 75);
    }

    private static void rowsAtMost100() {
        SplitLeaks x = withCount(98);
        due("row 99", x.row(0, 0, 0), 98);
        due("row 100", x.row(0, 0, 0), 99);
        due("row 101", x.row(0, 0, 0), FULL);
        due("row 102", x.row(0, 0, 0), FULL);
        due("how many", x.told(0), 100);
        due("the last one", x.of(99), NONE);
        due("none behind it", x.of(100), BAD);
    }

    private static void groups0To29() {
        SplitLeaks x = new SplitLeaks();
        due("group -1", x.row(-1, 0, 0), BAD);
        due("group 0", x.row(0, 0, 0), 0);
        due("group 29", x.row(29, 0, 0), 1);
        due("group 30", x.row(30, 0, 0), BAD);
        due("the lowest", x.row(LOWEST, 0, 0), BAD);
        due("the highest", x.row(HIGHEST, 0, 0), BAD);
        due("how many rows", x.told(0), 2);
        x.split(0, 0, 0);
        x.parts(2, 0, 1, 0, 0);
        due("group 0 has one", x.over(0), 1);
        due("group 29 has one", x.over(29), 1);
        due("group 28 has none", x.over(28), 0);
    }

    private static void labels0To4() {
        SplitLeaks x = new SplitLeaks();
        due("label -1", x.row(0, -1, 0), BAD);
        due("label 0", x.row(0, 0, 0), 0);
        due("label 4", x.row(0, 4, 0), 1);
        due("label 5", x.row(0, 5, 0), BAD);
        due("the lowest", x.row(0, LOWEST, 0), BAD);
        due("the highest", x.row(0, HIGHEST, 0), BAD);
        due("how many rows", x.told(0), 2);
        x.split(0, 0, 0);
        for (int l = 0; l < 5; l++) {
            due("rows of label " + l, x.many(0, l), l == 0 || l == 4 ? 1 : 0);
        }
    }

    private static void times0To100000() {
        SplitLeaks x = new SplitLeaks();
        due("time -1", x.row(0, 0, -1), BAD);
        due("time 100000", x.row(0, 0, 100000), 0);
        due("time 0", x.row(0, 0, 0), 1);
        due("time 100001", x.row(0, 0, 100001), BAD);
        due("the lowest", x.row(0, 0, LOWEST), BAD);
        due("the highest", x.row(0, 0, HIGHEST), BAD);
        due("how many rows", x.told(0), 2);
        x.parts(2, 1, 1, 0, 0);
        x.split(2, 0, 100000);
        dueParts("100000 is 100000 behind 0", x, 1, 0);
    }

    private static void columns0To2() {
        SplitLeaks x = halved(2);
        due("column -1", x.column(0, -1, 9), BAD);
        due("column 3", x.column(0, 3, 9), BAD);
        due("the lowest", x.column(0, LOWEST, 9), BAD);
        due("the highest", x.column(0, HIGHEST, 9), BAD);
        due("still equal", x.leaks(0), 1);
        due("column 0", x.column(0, 0, 9), 1);
        due("no more equal", x.leaks(0), 0);
        due("column 2", x.column(0, 2, 9), 1);
        due("column 0 back", x.column(0, 0, 0), 1);
        due("column 2 back", x.column(0, 2, 0), 1);
        due("equal again", x.leaks(0), 1);
    }

    private static void numbersAreLongs() {
        for (long v : new long[] {Long.MIN_VALUE, Long.MAX_VALUE, 1L << 32, -1}) {
            SplitLeaks x = halved(2);
            x.column(0, 1, v);
            due(v + " is not 0", x.leaks(0), 0);
            x.column(1, 1, v);
            due(v + " twice", x.leaks(0), 1);
            x.column(1, 1, v ^ Long.MIN_VALUE);
            due(v + " and the one with another highest bit", x.leaks(0), 0);
            x.column(1, 1, v ^ 1);
            due(v + " and the one with another lowest bit", x.leaks(0), 0);
        }
    }

    private static void numbersAre0AtFirst() {
        SplitLeaks x = halved(2);
        for (int c = 0; c < 3; c++) {
            due("column " + c, x.column(0, c, 0), 1);
        }
        due("the untouched one is equal", x.leaks(0), 1);
    }

    private static void words0To63() {
        SplitLeaks x = halved(2);
        due("word -1", x.word(0, -1, true), BAD);
        due("word 64", x.word(0, 64, true), BAD);
        due("the lowest", x.word(0, LOWEST, true), BAD);
        due("the highest", x.word(0, HIGHEST, true), BAD);
        due("still equal", x.leaks(0), 1);
        due("word 0", x.word(0, 0, true), 1);
        due("word 63", x.word(0, 63, true), 2);
        due("another row has word 63", x.word(1, 63, true), 1);
        due("1 of 2 in both", x.leaks(1), 1);
    }

    private static void wordsNoneAtFirst() {
        SplitLeaks x = withCount(1);
        for (int w = 0; w < 64; w++) {
            due("word " + w + " goes", x.word(0, w, false), 0);
        }
    }

    private static void partsAreWhereTheSeedPutsThem(long seed) {
        SplitLeaks x = withCount(100);
        x.parts(4, 1, 1, 1, 1);
        x.split(0, seed, 0);
        int[] order = new Seed(seed).shuffled(upTo(100));
        int[] want = new int[100];
        for (int i = 0; i < 100; i++) {
            want[order[i]] = i / 25;
        }
        dueParts("seed " + seed, x, want);
    }

    private static int[] upTo(int n) {
        int[] all = new int[n];
        for (int i = 0; i < n; i++) {
            all[i] = i;
        }
        return all;
    }

    private static void drawsWrapAround() {
        for (long seed : SEEDS) {
            partsAreWhereTheSeedPutsThem(seed);
        }
    }

    private static void shufflingOfTwo() {
        for (long seed : SEEDS) {
            SplitLeaks x = withCount(2);
            x.parts(2, 1, 1, 0, 0);
            x.split(0, seed, 0);
            int drawn = new Seed(seed).draw(2);
            dueParts("seed " + seed, x, drawn == 0 ? 1 : 0, drawn == 0 ? 0 : 1);
        }
    }

    // Labels 0 and 1 have one row and none, so that the first draw is for label 2.
    private static void shufflingOfNoneAndOne() {
        for (long seed : SEEDS) {
            SplitLeaks x = withLabels(0, 2, 2, 2, 2, 2);
            x.parts(2, 2, 3, 0, 0);
            x.split(3, seed, 0);
            int[] order = new Seed(seed).shuffled(1, 2, 3, 4, 5);
            for (int i = 0; i < 5; i++) {
                due("seed " + seed + ", row " + order[i], x.of(order[i]), i < 2 ? 0 : 1);
            }
        }
    }

    private static void k1To4() {
        SplitLeaks x = new SplitLeaks();
        due("k 0", x.parts(0, 1, 1, 1, 1), BAD);
        due("k 1", x.parts(1, 1, 1, 1, 1), 1);
        due("quota of part 1", x.quota(1, 4), BAD);
        due("k 4", x.parts(4, 1, 1, 1, 1), 4);
        due("quota of part 3", x.quota(3, 4), 1);
        due("k 5", x.parts(5, 1, 1, 1, 1), BAD);
        due("k", x.told(1), 4);
        due("the lowest k", x.parts(LOWEST, 1, 1, 1, 1), BAD);
        due("the highest k", x.parts(HIGHEST, 1, 1, 1, 1), BAD);
    }

    private static void weights0To1000() {
        for (int p = 0; p < 4; p++) {
            SplitLeaks x = new SplitLeaks();
            for (int bad : new int[] {-1, 1001, LOWEST, HIGHEST}) {
                due("weight " + bad + " of part " + p, withWeight(x, p, bad), BAD);
            }
            due("weight 0 of part " + p, withWeight(x, p, 0), 3);
            due("its quota", x.quota(p, 3), 0);
            due("weight 1000 of part " + p, withWeight(x, p, 1000), 1003);
            due("its quota", x.quota(p, 1003), 1000);
        }
    }

    /** The other weights are 1. */
    private static int withWeight(SplitLeaks x, int part, int weight) {
        int[] w = {1, 1, 1, 1};
        w[part] = weight;
        return x.parts(4, w[0], w[1], w[2], w[3]);
    }

    private static void sumAbove0() {
        SplitLeaks x = new SplitLeaks();
        for (int k = 1; k <= 4; k++) {
            due("no weight, k " + k, x.parts(k, 0, 0, 0, 0), BAD);
            due("weight 1 of the last alone, k " + k,
                    x.parts(k, k == 1 ? 1 : 0, k == 2 ? 1 : 0, k == 3 ? 1 : 0, k == 4 ? 1 : 0), 1);
            due("weight behind k alone, k " + k, x.parts(k, 0, k < 2 ? 1 : 0, k < 3 ? 1 : 0, k < 4 ? 1 : 0), BAD);
        }
        due("the greatest sum", x.parts(4, 1000, 1000, 1000, 1000), 4000);
    }

    // Added up as ints these give 0, 1 and 2: the sum alone does not show that they are no weights.
    private static void sumsThatWrapAround() {
        SplitLeaks x = new SplitLeaks();
        due("a sum that wraps to 0", x.parts(2, LOWEST, LOWEST, 0, 0), BAD);
        due("a sum that wraps to 1", x.parts(3, LOWEST, LOWEST, 1, 0), BAD);
        due("a sum that wraps to 2", x.parts(4, HIGHEST, HIGHEST, 2, 2), BAD);
        due("weights that meet at 5", x.parts(2, 1005, -1000, 0, 0), BAD);
        due("W", x.told(2), 1);
    }

    private static void quotasAreCut() {
        SplitLeaks x = new SplitLeaks();
        x.parts(2, 999, 1, 0, 0);
        dueQuotas(x, 999, 998, 1);
        dueQuotas(x, 1000, 999, 1);
        dueQuotas(x, 500, 500, 0);
        dueQuotas(x, 501, 500, 1);
        dueQuotas(x, 1, 1, 0);
    }

    private static void missingGoesToTheGreatestRests() {
        SplitLeaks x = new SplitLeaks();
        x.parts(4, 1, 2, 3, 4);
        dueQuotas(x, 1, 0, 0, 0, 1);
        dueQuotas(x, 2, 0, 0, 1, 1);
        dueQuotas(x, 3, 0, 1, 1, 1);
        dueQuotas(x, 4, 0, 1, 1, 2);
        x.parts(3, 600, 300, 100, 0);
        dueQuotas(x, 3, 2, 1, 0);
        dueQuotas(x, 8, 5, 2, 1);
    }

    private static void likeRestsTheLeastNumberFirst() {
        SplitLeaks x = new SplitLeaks();
        x.parts(4, 1, 1, 1, 1);
        dueQuotas(x, 1, 1, 0, 0, 0);
        dueQuotas(x, 2, 1, 1, 0, 0);
        x.parts(4, 1, 3, 1, 3);
        dueQuotas(x, 1, 0, 1, 0, 0);
        dueQuotas(x, 3, 1, 1, 0, 1);
    }

    private static void eachAtMostOnce() {
        SplitLeaks x = new SplitLeaks();
        x.parts(4, 1, 1, 1, 1);
        dueQuotas(x, 3, 1, 1, 1, 0);
        x.parts(4, 1000, 999, 999, 999);
        dueQuotas(x, 3, 1, 1, 1, 0);
        x.parts(3, 2, 3, 3, 0);
        dueQuotas(x, 2, 0, 1, 1);
    }

    private static void noThingMissing() {
        SplitLeaks x = new SplitLeaks();
        x.parts(4, 4, 3, 2, 1);
        dueQuotas(x, 10, 4, 3, 2, 1);
        dueQuotas(x, 100000, 40000, 30000, 20000, 10000);
        dueQuotas(x, 0, 0, 0, 0, 0);
    }

    private static void noneForWeight0() {
        SplitLeaks x = new SplitLeaks();
        x.parts(4, 0, 1, 0, 1);
        dueQuotas(x, 1, 0, 1, 0, 0);
        dueQuotas(x, 99999, 0, 50000, 0, 49999);
        x.parts(2, 0, 1000, 0, 0);
        dueQuotas(x, 100000, 0, 100000);
    }

    // The greatest n times the greatest weight, and with every sum of weights.
    private static void greatestProducts() {
        SplitLeaks x = new SplitLeaks();
        x.parts(4, 1000, 1000, 1000, 1000);
        dueQuotas(x, 100000, 25000, 25000, 25000, 25000);
        dueQuotas(x, 99999, 25000, 25000, 25000, 24999);
        x.parts(1, 1000, 0, 0, 0);
        dueQuotas(x, 100000, 100000);
        x.parts(4, 1000, 1000, 1000, 999);
        dueQuotas(x, 100000, 25007, 25006, 25006, 24981);
        x.parts(2, 1000, 1, 0, 0);
        dueQuotas(x, 100000, 99900, 100);
    }

    private static void outAtFirst() {
        SplitLeaks x = withCount(1);
        due("the first row", x.of(0), NONE);
        x.split(0, 0, 0);
        due("in a part now", x.of(0), 0);
        x.row(0, 0, 0);
        due("a row behind a split", x.of(1), NONE);
        due("the one before it stays", x.of(0), 0);
        due("rows in parts", x.told(3), 1);
    }

    public static void main(String[] args) {
        test("An object is used for at most 512 calls after it has been made", TermsTest::calls512);
        test("ROWS 0, 1, .. (100 at most)", TermsTest::rowsAtMost100);
        test("a GROUP (0 .. 29)", TermsTest::groups0To29);
        test("a LABEL (0 .. 4)", TermsTest::labels0To4);
        test("a TIME (0 .. 100000)", TermsTest::times0To100000);
        test("numbers in COLUMNS 0 .. 2", TermsTest::columns0To2);
        test("numbers (longs)", TermsTest::numbersAreLongs);
        test("numbers (0 at first)", TermsTest::numbersAre0AtFirst);
        test("a set of WORDS (0 .. 63)", TermsTest::words0To63);
        test("WORDS (none at first)", TermsTest::wordsNoneAtFirst);
        test("z = z * 6364136223846793005 + .., (z >>> 33) modulo n", TermsTest::drawsWrapAround);
        test("for i = m - 1 down to 1, of two", TermsTest::shufflingOfTwo);
        test("for i = m - 1 down to 1, of none and of one", TermsTest::shufflingOfNoneAndOne);
        test("PARTS 0 .. k - 1 (k 1 .. 4)", TermsTest::k1To4);
        test("WEIGHTS (0 .. 1000, as told)", TermsTest::weights0To1000);
        test("the sum of all, W, above 0", TermsTest::sumAbove0);
        test("WEIGHTS whose sum wraps around", TermsTest::sumsThatWrapAround);
        test("n times its WEIGHT / W, cut", TermsTest::quotasAreCut);
        test("what is missing to n goes to the PARTS whose rests are the greatest",
                TermsTest::missingGoesToTheGreatestRests);
        test("of like ones the least number first", TermsTest::likeRestsTheLeastNumberFirst);
        test("each at most once", TermsTest::eachAtMostOnce);
        test("what is missing to n, nothing", TermsTest::noThingMissing);
        test("QUOTAS of a WEIGHT of 0", TermsTest::noneForWeight0);
        test("n times its WEIGHT, the greatest", TermsTest::greatestProducts);
        test("A ROW is in a PART, or OUT (at first)", TermsTest::outAtFirst);
        end();
    }
}
