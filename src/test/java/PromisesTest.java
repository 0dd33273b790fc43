/** Each promise of the document by hand: ordinary inputs, the edges that it names, and wrong inputs. */
public final class PromisesTest extends Checks {
    private static void promise1() {
        SplitLeaks x = new SplitLeaks();
        due("rows", x.told(0), 0);
        due("k", x.told(1), 1);
        due("W", x.told(2), 1);
        due("rows in parts", x.told(3), 0);
        due("nearness", x.told(4), 50);
        due("of(0)", x.of(0), BAD);
        due("quota(0, 7)", x.quota(0, 7), 7);
        due("quota(1, 7)", x.quota(1, 7), BAD);
        for (int kind = 0; kind < 6; kind++) {
            dueLeaks("none yet", x, kind);
        }
        due("meets()", x.meets(), 0);
        x.row(0, 0, 0);
        for (int s = 0; s < 8; s++) {
            due("base of a new step", x.base(s, NONE), NONE);
            due("fit of a new step", x.fit(s, 0), 1);
        }
        SplitLeaks other = new SplitLeaks();
        due("another object's rows", other.told(0), 0);
    }

    private static void promise2() {
        SplitLeaks x = new SplitLeaks();
        int[][] bad = {{-1, 0, 0}, {30, 0, 0}, {0, -1, 0}, {0, 5, 0}, {0, 0, -1}, {0, 0, 100001},
            {LOWEST, 0, 0}, {0, HIGHEST, 0}, {0, 0, HIGHEST}};
        for (int[] b : bad) {
            due("a bad row", x.row(b[0], b[1], b[2]), BAD);
        }
        due("rows after bad ones", x.told(0), 0);
        due("row(29, 4, 100000)", x.row(29, 4, 100000), 0);
        due("row(0, 0, 0)", x.row(0, 0, 0), 1);
        due("a new row is out", x.of(1), NONE);
        for (int r = 2; r < 100; r++) {
            due("a row's number", x.row(r % 30, r % 5, r), r);
        }
        due("row 101", x.row(0, 0, 0), FULL);
        for (int[] b : bad) {
            due("a bad row when full", x.row(b[0], b[1], b[2]), BAD);
        }
        due("rows when full", x.told(0), 100);
        due("split of 100", x.split(0, 3, 0), 100);
        due("no row behind the last", x.of(100), BAD);
        SplitLeaks late = halved(2);
        due("a row after a split", late.row(0, 0, 0), 2);
        dueParts("a row after a split", late, 0, 1, NONE);
    }

    private static void promise3() {
        SplitLeaks x = halved(2);
        dueLeaks("all numbers are 0 at first", x, 0, 0, 1);
        for (int c = 0; c < 3; c++) {
            due("column", x.column(0, c, Long.MIN_VALUE + c), 1);
            dueLeaks("one number differs", x, 0);
            due("column", x.column(1, c, Long.MIN_VALUE + c), 1);
            dueLeaks("none differs", x, 0, 0, 1);
        }
        due("column(-1, 0, 1)", x.column(-1, 0, 1), BAD);
        due("column(2, 0, 1)", x.column(2, 0, 1), BAD);
        due("column(0, -1, 1)", x.column(0, -1, 1), BAD);
        due("column(0, 3, 1)", x.column(0, 3, 1), BAD);
        due("column(MAX, MIN, 1)", x.column(HIGHEST, LOWEST, 1), BAD);
        dueLeaks("bad ones changed nothing", x, 0, 0, 1);
        due("column, high bits", x.column(1, 2, (1L << 40) + Long.MIN_VALUE + 2), 1);
        dueLeaks("numbers are longs", x, 0);
    }

    private static void promise4() {
        SplitLeaks x = halved(2);
        due("word comes", x.word(0, 0, true), 1);
        due("word comes again", x.word(0, 0, true), 1);
        due("word 63 comes", x.word(0, 63, true), 2);
        due("word 32 comes", x.word(0, 32, true), 3);
        due("one that is not there goes", x.word(0, 31, false), 3);
        due("word 0 goes", x.word(0, 0, false), 2);
        due("the other row has none", x.word(1, 5, false), 0);
        due("word(-1, 0)", x.word(-1, 0, true), BAD);
        due("word(2, 0)", x.word(2, 0, true), BAD);
        due("word(0, -1)", x.word(0, -1, true), BAD);
        due("word(0, 64)", x.word(0, 64, true), BAD);
        due("word(0, 64) goes", x.word(0, 64, false), BAD);
        due("bad ones changed nothing", x.word(0, 63, true), 2);
        for (int w = 0; w < 64; w++) {
            due("all words come", x.word(1, w, true), w + 1);
        }
        for (int w = 0; w < 64; w++) {
            due("all words go", x.word(1, w, false), 63 - w);
        }
    }

    private static void promise5() {
        SplitLeaks x = new SplitLeaks();
        due("parts(4, ..)", x.parts(4, 1000, 1000, 1000, 1000), 4000);
        due("k", x.told(1), 4);
        due("parts(0, ..)", x.parts(0, 1, 1, 1, 1), BAD);
        due("parts(5, ..)", x.parts(5, 1, 1, 1, 1), BAD);
        due("parts(MIN, ..)", x.parts(LOWEST, 1, 1, 1, 1), BAD);
        for (int at = 0; at < 4; at++) {
            int[] w = {1, 1, 1, 1};
            w[at] = -1;
            due("weight -1 at " + at, x.parts(4, w[0], w[1], w[2], w[3]), BAD);
            w[at] = 1001;
            due("weight 1001 at " + at, x.parts(4, w[0], w[1], w[2], w[3]), BAD);
        }
        due("no weight at all", x.parts(4, 0, 0, 0, 0), BAD);
        due("no weight up to k", x.parts(3, 0, 0, 0, 5), BAD);
        due("weights that meet at 0", x.parts(2, 5, -5, 0, 0), BAD);
        due("k after bad ones", x.told(1), 4);
        due("W after bad ones", x.told(2), 4000);
        due("those behind k do not count", x.parts(1, 5, -1, 2000, LOWEST), 5);
        due("W", x.told(2), 5);
        due("those behind k do not count", x.parts(3, 0, 0, 7, 1001), 7);
        due("quota(2, 9)", x.quota(2, 9), 9);

        SplitLeaks y = withCount(4);
        y.parts(4, 1, 1, 1, 1);
        y.split(2, 0, 0);
        y.parts(1, 1, 0, 0, 0);
        dueParts("rows stay above k", y, 0, 1, 2, 3);
        due("rows in parts above k", y.told(3), 4);
        due("many above k", y.many(3, NONE), 1);
    }

    private static void promise6() {
        SplitLeaks x = new SplitLeaks();
        x.parts(3, 3, 3, 1, 0);
        dueQuotas(x, 5, 2, 2, 1);
        dueQuotas(x, 1, 1, 0, 0);
        dueQuotas(x, 0, 0, 0, 0);
        dueQuotas(x, 7, 3, 3, 1);
        x.parts(4, 1, 1, 1, 1);
        dueQuotas(x, 6, 2, 2, 1, 1);
        dueQuotas(x, 7, 2, 2, 2, 1);
        x.parts(2, 1000, 999, 0, 0);
        dueQuotas(x, 100000, 50025, 49975);
        x.parts(4, 0, 2, 0, 1);
        dueQuotas(x, 4, 0, 3, 0, 1);
        x.parts(4, 1, 2, 3, 1000);
        dueQuotas(x, 2, 0, 0, 0, 2);
        x.parts(4, 2, 1, 2, 4);
        dueQuotas(x, 2, 1, 0, 0, 1);
        due("quota(-1, 5)", x.quota(-1, 5), BAD);
        due("quota(4, 5)", x.quota(4, 5), BAD);
        due("quota(0, -1)", x.quota(0, -1), BAD);
        due("quota(0, 100001)", x.quota(0, 100001), BAD);
        due("quota(0, MAX)", x.quota(0, HIGHEST), BAD);
        due("quota(3, 100000)", x.quota(3, 100000), 44445);
    }

    private static void promise7Plain() {
        for (long seed : SEEDS) {
            SplitLeaks x = withCount(7);
            x.parts(3, 3, 0, 2, 0);
            due("split(0)", x.split(0, seed, 0), 7);
            Seed z = new Seed(seed);
            int[] order = z.shuffled(0, 1, 2, 3, 4, 5, 6);
            for (int i = 0; i < 7; i++) {
                due("plain, the " + i + "-th shuffled", x.of(order[i]), i < 4 ? 0 : 2);
            }
        }
    }

    private static void promise7Labels() {
        for (long seed : SEEDS) {
            SplitLeaks x = withRows(new int[][] {{0, 4, 0}, {0, 1, 0}, {0, 4, 0}, {0, 1, 0}, {0, 4, 0}, {0, 4, 0}, {0, 1, 0}});
            x.parts(2, 1, 1, 0, 0);
            due("split(3)", x.split(3, seed, 0), 7);
            Seed z = new Seed(seed);
            int[] ones = z.shuffled(1, 3, 6);
            int[] fours = z.shuffled(0, 2, 4, 5);
            for (int i = 0; i < 3; i++) {
                due("label 1, the " + i + "-th shuffled", x.of(ones[i]), i < 2 ? 0 : 1);
            }
            for (int i = 0; i < 4; i++) {
                due("label 4, the " + i + "-th shuffled", x.of(fours[i]), i < 2 ? 0 : 1);
            }
        }
    }

    private static void promise7Groups() {
        for (long seed : SEEDS) {
            SplitLeaks x = new SplitLeaks();
            int[] sizes = {2, 3, 1};
            for (int round = 0; round < 3; round++) {
                for (int g = 0; g < 3; g++) {
                    if (round < sizes[g]) {
                        x.row(g * 10 + 9, 0, 0);
                    }
                }
            }
            x.parts(2, 2, 1, 0, 0);
            due("split(1)", x.split(1, seed, 0), 6);
            Seed z = new Seed(seed);
            int[] order = z.shuffled(0, 1, 2);
            int[] has = {0, 0};
            for (int g : order) {
                int p = 2 * 6 - 3 * has[0] >= 6 - 3 * has[1] ? 0 : 1;
                has[p] += sizes[g];
                due("group " + g, x.of(g), p);
            }
            due("many(0)", x.many(0, NONE), has[0]);
            dueLeaks("groups are never parted", x, 2);
        }
        SplitLeaks y = withRows(new int[][] {{0, 0, 0}, {0, 0, 0}, {0, 0, 0}});
        y.parts(2, 0, 1, 0, 0);
        y.split(1, 0, 0);
        dueParts("none in the part without weight", y, 1, 1, 1);
    }

    private static void promise7Times() {
        SplitLeaks x = withRows(new int[][] {{0, 0, 50}, {0, 0, 10}, {0, 0, 30}, {0, 0, 10}, {0, 0, 40}, {0, 0, 30}});
        x.parts(3, 1, 1, 1, 0);
        due("split(2), no gap", x.split(2, 0, 0), 6);
        dueParts("no gap", x, 2, 0, 1, 0, 2, 1);
        due("split(2), gap 20", x.split(2, 9, 20), 5);
        dueParts("gap 20", x, 2, 0, 1, 0, NONE, 1);
        due("split(2), gap 21", x.split(2, 9, 21), 2);
        dueParts("those that went out hold off, too", x, NONE, 0, NONE, 0, NONE, NONE);
        due("split(2), gap 100000", x.split(2, 9, 100000), 2);
        due("split(0) puts all anew", x.split(0, 9, 100000), 6);

        SplitLeaks tied = withRows(new int[][] {{0, 0, 5}, {0, 0, 5}, {0, 0, 5}, {0, 0, 5}, {0, 0, 6}, {0, 0, 7}});
        tied.parts(3, 1, 1, 1, 0);
        tied.split(2, 0, 1);
        dueParts("like times stay together, places go on", tied, 0, 0, 0, 0, 2, 2);
        tied.split(2, 0, 2);
        dueParts("a gap behind a part that is empty", tied, 0, 0, 0, 0, NONE, 2);

        SplitLeaks light = withRows(new int[][] {{0, 0, 0}, {0, 0, 0}, {0, 0, 1}});
        light.parts(3, 0, 1, 0, 0);
        light.split(2, 0, 100000);
        dueParts("no gap before the first rows", light, 1, 1, 1);
    }

    private static void promise7() {
        promise7Plain();
        promise7Labels();
        promise7Groups();
        promise7Times();
        SplitLeaks x = halved(4);
        for (int kind = 0; kind < 4; kind++) {
            due("gap -1", x.split(kind, 0, -1), BAD);
            due("gap 100001", x.split(kind, 0, 100001), BAD);
        }
        due("kind -1", x.split(-1, 0, 0), BAD);
        due("kind 4", x.split(4, 0, 0), BAD);
        due("kind MAX", x.split(HIGHEST, 0, 0), BAD);
        dueParts("bad ones changed nothing", x, 0, 0, 1, 1);
        SplitLeaks none = new SplitLeaks();
        for (int kind = 0; kind < 4; kind++) {
            due("split of no rows", none.split(kind, 0, 100000), 0);
        }
    }

    private static void promise8() {
        for (long seed : SEEDS) {
            SplitLeaks x = withRows(new int[][] {{0, 3, 0}, {0, 1, 0}, {0, 3, 0}, {0, 1, 0}, {0, 3, 0}, {0, 3, 0}, {0, 0, 0}});
            x.parts(1, 9, 0, 0, 0);
            due("folds(3)", x.folds(3, seed), 2);
            due("k", x.told(1), 3);
            due("W", x.told(2), 3);
            Seed z = new Seed(seed);
            int[] ones = z.shuffled(1, 3);
            int[] threes = z.shuffled(0, 2, 4, 5);
            due("label 0 first", x.of(6), 0);
            due("then label 1", x.of(ones[0]), 1);
            due("then label 1", x.of(ones[1]), 2);
            for (int i = 0; i < 4; i++) {
                due("then label 3", x.of(threes[i]), i % 3);
            }
            due("folds(2)", x.folds(2, seed), 1);
            due("folds(4)", x.folds(4, seed), 2);
            due("quota(3, 4)", x.quota(3, 4), 1);
        }
        SplitLeaks y = halved(4);
        y.parts(1, 7, 0, 0, 0);
        for (int many : new int[] {-1, 0, 1, 5, HIGHEST}) {
            due("folds(" + many + ")", y.folds(many, 0), BAD);
        }
        due("k after bad ones", y.told(1), 1);
        due("W after bad ones", y.told(2), 7);
        dueParts("bad ones changed nothing", y, 0, 0, 1, 1);
        due("folds of no rows", new SplitLeaks().folds(2, 0), 0);
    }

    private static void promise9() {
        for (long seed : SEEDS) {
            SplitLeaks x = withRows(new int[][] {{0, 2, 0}, {0, 2, 0}, {0, 1, 10}, {0, 2, 10}, {0, 1, 20}, {0, 2, 20}, {0, 1, 21}, {0, 2, 20}});
            x.parts(3, 2, 2, 4, 0);
            x.split(2, 0, 1);
            dueParts("before", x, 0, 0, 1, 1, 2, 2, 2, 2);
            x.row(0, 1, 0);
            x.parts(1, 5, 0, 0, 0);
            due("nested(1, 2)", x.nested(1, 2, seed), 6);
            due("k", x.told(1), 2);
            due("W", x.told(2), 2);
            Seed z = new Seed(seed + 1);
            int[] ones = z.shuffled(4, 6);
            int[] twos = z.shuffled(0, 1, 5, 7);
            due("label 1", x.of(ones[0]), 0);
            due("label 1", x.of(ones[1]), 1);
            for (int i = 0; i < 4; i++) {
                due("label 2", x.of(twos[i]), i % 2);
            }
            due("rows of the outer part", x.of(2), NONE);
            due("rows of the outer part", x.of(3), NONE);
            due("rows that were out", x.of(8), NONE);
        }
        SplitLeaks y = halved(4);
        y.parts(1, 7, 0, 0, 0);
        due("nested(-1, 2)", y.nested(-1, 2, 0), BAD);
        due("nested(4, 2)", y.nested(4, 2, 0), BAD);
        due("nested(0, 1)", y.nested(0, 1, 0), BAD);
        due("nested(0, 5)", y.nested(0, 5, 0), BAD);
        due("bad before state", y.nested(3, 5, 0), BAD);
        due("nested(3, 2)", y.nested(3, 2, 0), STATE);
        due("nested(2, 4)", y.nested(2, 4, 0), STATE);
        dueParts("refused ones changed nothing", y, 0, 0, 1, 1);
        due("k after refused ones", y.told(1), 1);
        due("W after refused ones", y.told(2), 7);
        SplitLeaks whole = withCount(3);
        whole.split(0, 0, 0);
        due("nested in the part of all", whole.nested(0, 2, 0), 0);
        dueParts("all are out", whole, NONE, NONE, NONE);
        due("nested again", whole.nested(0, 2, 0), STATE);
    }

    private static void promise10() {
        SplitLeaks x = withCount(2);
        due("of(0)", x.of(0), NONE);
        x.parts(4, 0, 0, 0, 1);
        x.split(0, 0, 0);
        due("of(0)", x.of(0), 3);
        due("of(1)", x.of(1), 3);
        for (int r : new int[] {-1, 2, 100, LOWEST, HIGHEST}) {
            due("of(" + r + ")", x.of(r), BAD);
        }
    }

    private static void promise11() {
        SplitLeaks x = withRows(new int[][] {{0, 0, 0}, {0, 4, 1}, {0, 4, 2}, {0, 1, 3}, {0, 4, 4}});
        due("all out", x.many(0, NONE), 0);
        x.parts(2, 3, 2, 0, 0);
        x.split(2, 0, 0);
        due("many(0, NONE)", x.many(0, NONE), 3);
        due("many(1, NONE)", x.many(1, NONE), 2);
        due("many(0, 0)", x.many(0, 0), 1);
        due("many(0, 4)", x.many(0, 4), 2);
        due("many(1, 4)", x.many(1, 4), 1);
        due("many(1, 2)", x.many(1, 2), 0);
        due("a part above k", x.many(3, NONE), 0);
        due("many(-1, 0)", x.many(-1, 0), BAD);
        due("many(4, 0)", x.many(4, 0), BAD);
        due("many(0, -2)", x.many(0, -2), BAD);
        due("many(0, 5)", x.many(0, 5), BAD);
        due("many(NONE, NONE)", x.many(NONE, NONE), BAD);
    }

    private static void promise12() {
        SplitLeaks x = withRows(new int[][] {{0, 0, 0}, {0, 0, 1}, {0, 0, 2}, {0, 1, 3}, {0, 0, 4}, {0, 0, 5}, {0, 0, 6}, {0, 3, 7}});
        dueShare(x, 0, 0, 0, "ArithmeticException");
        x.parts(2, 1, 1, 0, 0);
        x.split(2, 0, 2);
        dueParts("before", x, 0, 0, 0, 0, NONE, 1, 1, 1);
        dueShare(x, 0, 0, 0, "3");
        dueShare(x, 0, 0, 1, "5");
        dueShare(x, 0, 1, 0, "2");
        dueShare(x, 0, 3, 0, "0");
        dueShare(x, 0, 3, 1, "1");
        dueShare(x, 1, 0, 0, "1");
        dueShare(x, 1, 0, 1, "1");
        dueShare(x, 2, 0, 0, "ArithmeticException");
        x.split(2, 0, 0);
        dueShare(x, 0, 1, 0, "1");
        dueShare(x, 0, 1, 1, "2");
        for (int no : new int[] {-1, 5, LOWEST}) {
            dueShare(x, no, 0, 0, "IndexOutOfBoundsException");
        }
        for (int no : new int[] {-1, 4, HIGHEST}) {
            dueShare(x, 0, no, 0, "IndexOutOfBoundsException");
        }
        for (int no : new int[] {-1, 2}) {
            dueShare(x, 0, 0, no, "IllegalArgumentException");
            dueShare(x, 2, 0, no, "IllegalArgumentException");
            dueShare(x, 5, 0, no, "IndexOutOfBoundsException");
            dueShare(x, 0, 4, no, "IndexOutOfBoundsException");
        }
    }

    private static void promise13() {
        SplitLeaks x = withRows(new int[][] {{7, 0, 9}, {7, 0, 1}, {7, 0, 2}, {29, 0, 3}, {7, 0, 4}});
        due("the first row is out", x.over(7), 0);
        x.parts(2, 3, 2, 0, 0);
        x.split(2, 0, 0);
        due("4 above the quota of part 1", x.over(7), 2);
        due("not above", x.over(29), 0);
        due("no rows", x.over(0), 0);
        x.parts(2, 1, 4, 0, 0);
        due("as many as the quota", x.over(7), 0);
        x.parts(2, 1, 0, 0, 0);
        due("a quota of 0", x.over(7), 4);
        x.parts(1, 1, 0, 0, 0);
        due("a part not below k", x.over(7), 0);
        x.parts(2, 3, 2, 0, 0);
        x.row(7, 0, 5);
        due("rows that are out count, too; the quota is of all", x.over(7), 3);
        due("over(-1)", x.over(-1), BAD);
        due("over(30)", x.over(30), BAD);
    }

    private static void promise14() {
        SplitLeaks x = new SplitLeaks();
        due("near(1)", x.near(1), 50);
        due("near(100)", x.near(100), 1);
        for (int no : new int[] {0, 101, -1, HIGHEST}) {
            due("near(" + no + ")", x.near(no), BAD);
        }
        due("near(30)", x.near(30), 100);
        due("told(4)", x.told(4), 30);
    }

    private static void promise15() {
        SplitLeaks x = withCount(100);
        for (int r = 0; r < 100; r++) {
            due("fit(7, " + r + ")", x.fit(7, 99 - r), r + 1);
        }
        due("fit again", x.fit(7, 0), STATE);
        due("fit again", x.fit(7, 99), STATE);
        due("another step", x.fit(0, 99), 1);
        due("fit(-1, 0)", x.fit(-1, 0), BAD);
        due("fit(8, 0)", x.fit(8, 0), BAD);
        due("fit(0, -1)", x.fit(0, -1), BAD);
        due("fit(0, 100)", x.fit(0, 100), BAD);
        due("base(7, 0)", x.base(7, 0), NONE);
        SplitLeaks y = withCount(2);
        y.fit(0, 0);
        y.base(1, 0);
        due("rows of the step that it goes by do not count", y.fit(1, 1), 1);
        due("nor are they fitted already", y.fit(1, 0), 2);
        due("no such row", y.fit(0, 2), BAD);
    }

    private static void promise16() {
        SplitLeaks x = new SplitLeaks();
        due("base(7, 6)", x.base(7, 6), NONE);
        due("base(7, 0)", x.base(7, 0), 6);
        due("base(7, 7)", x.base(7, 7), BAD);
        due("base(7, 8)", x.base(7, 8), BAD);
        due("base(7, -2)", x.base(7, -2), BAD);
        due("base(8, 0)", x.base(8, 0), BAD);
        due("base(-1, NONE)", x.base(-1, NONE), BAD);
        due("base(0, 0)", x.base(0, 0), BAD);
        due("base(0, NONE)", x.base(0, NONE), NONE);
        due("base(7, NONE)", x.base(7, NONE), 0);
        due("base(7, NONE)", x.base(7, NONE), NONE);
    }

    private static void equalLeaks() {
        SplitLeaks x = halved(4);
        dueLeaks("equal", x, 0, 0, 2, 0, 3, 1, 2, 1, 3);
        x.column(3, 0, 1);
        dueLeaks("equal", x, 0, 0, 2, 1, 2);
        x.word(0, 5, true);
        dueLeaks("equal", x, 0, 1, 2);
        x.row(0, 0, 0);
        dueLeaks("a row that is out", x, 0, 1, 2);
    }

    private static void nearLeaks() {
        SplitLeaks x = halved(4);
        dueLeaks("no words", x, 1);
        for (int w = 0; w < 3; w++) {
            x.word(0, w, true);
            x.word(2, w + 1, true);
        }
        dueLeaks("2 of 4 at 50", x, 1, 0, 2);
        x.near(51);
        dueLeaks("2 of 4 at 51", x, 1);
        x.near(1);
        x.word(3, 63, true);
        dueLeaks("none in both at 1", x, 1, 0, 2);
        x.word(1, 63, true);
        dueLeaks("equal ones are not near", x, 1, 0, 2);
        x.column(1, 2, 5);
        x.near(100);
        dueLeaks("the same words with other numbers", x, 1, 1, 3);
        x.near(1);
        x.word(1, 2, true);
        dueLeaks("by a, then b", x, 1, 0, 2, 1, 2, 1, 3);
    }

    private static void groupLeaks() {
        SplitLeaks x = withRows(new int[][] {{29, 0, 0}, {3, 0, 1}, {29, 0, 2}, {0, 0, 3}, {29, 0, 4}, {3, 0, 5}, {0, 0, 5}});
        dueLeaks("all out", x, 2);
        x.parts(4, 2, 2, 1, 2);
        x.split(2, 0, 0);
        dueParts("before", x, 0, 0, 1, 1, 2, 3, 3);
        dueLeaks("groups", x, 2, 0, 2, 3, 2, 29, 3);
    }

    private static void lateLeaks() {
        SplitLeaks x = withRows(new int[][] {{0, 0, 5}, {0, 0, 4}, {0, 0, 3}, {0, 0, 4}, {0, 0, 9}, {0, 0, 4}});
        x.split(0, 0, 0);
        dueLeaks("no other parts", x, 3);
        int firstGroupInFirstPart = 0;
        for (long seed = 0; seed < 20; seed++) {
            SplitLeaks y = withRows(new int[][] {{0, 0, 7}, {1, 0, 3}, {0, 0, 3}, {1, 0, 9}, {0, 0, 2}, {1, 0, 3}});
            y.parts(2, 1, 1, 0, 0);
            y.split(1, seed, 0);
            y.row(0, 0, 0);
            if (y.of(0) == 0) {
                firstGroupInFirstPart++;
                dueLeaks("late", y, 3, 0, 1, 2, 1);
            } else {
                dueLeaks("late", y, 3, 1, 4, 3, 4, 5, 4);
            }
        }
        due("both ways were tried", firstGroupInFirstPart > 0 && firstGroupInFirstPart < 20, true);
    }

    private static void tellingLeaks() {
        SplitLeaks x = withRows(new int[][] {{0, 0, 0}, {0, 0, 0}, {0, 1, 0}, {0, 1, 0}, {0, 2, 0}});
        long[] numbers = {7, 7, 8, 8, Long.MIN_VALUE};
        for (int r = 0; r < 5; r++) {
            x.column(r, 2, numbers[r]);
            x.column(r, 0, r);
        }
        dueLeaks("all out", x, 4);
        x.split(0, 0, 0);
        dueLeaks("a telling column", x, 4, 2, 3);
        x.column(4, 2, 8);
        dueLeaks("a number with two labels", x, 4);
        x.column(4, 2, 9);
        x.column(1, 2, 10);
        dueLeaks("only one number in two rows", x, 4);
        x.column(1, 2, 7);
        x.row(0, 1, 0);
        x.column(5, 2, 7);
        dueLeaks("a row that is out does not count", x, 4, 2, 3);
        x.split(0, 0, 0);
        dueLeaks("it does when it is in a part", x, 4);

        SplitLeaks y = withRows(new int[][] {{0, 3, 0}, {0, 3, 0}, {0, 3, 0}, {0, 3, 0}, {0, 1, 0}});
        for (int r = 0; r < 5; r++) {
            y.column(r, 1, r / 2);
            y.column(r, 0, r);
            y.column(r, 2, r / 4);
        }
        y.split(0, 0, 0);
        dueLeaks("all with the same label", y, 4);
    }

    private static void fittedLeaks() {
        SplitLeaks x = halved(4);
        x.fit(1, 3);
        x.fit(1, 2);
        x.fit(1, 0);
        dueLeaks("fitted", x, 5, 1, 2, 1, 3);
        x.fit(7, 3);
        x.base(7, 4);
        x.base(4, 1);
        dueLeaks("by a step that goes by one", x, 5, 1, 2, 1, 3, 4, 2, 4, 3, 7, 2, 7, 3);
        x.base(4, NONE);
        dueLeaks("by none", x, 5, 1, 2, 1, 3, 7, 3);
        x.row(0, 0, 0);
        x.fit(0, 4);
        dueLeaks("a row that is out does not count", x, 5, 1, 2, 1, 3, 7, 3);
    }

    private static void promise17And18() {
        equalLeaks();
        nearLeaks();
        groupLeaks();
        lateLeaks();
        tellingLeaks();
        fittedLeaks();
    }

    private static void promise17() {
        promise17And18();
        SplitLeaks x = halved(2);
        due("leaks(-1)", x.leaks(-1), BAD);
        due("leaks(6)", x.leaks(6), BAD);
        due("leaks(MAX)", x.leaks(HIGHEST), BAD);
        due("at most", halved(100).leaks(0), 2500);
    }

    private static void promise18() {
        promise17And18();
        SplitLeaks x = halved(2);
        due("leak(0, 0, 0)", x.leak(0, 0, 0), 0);
        due("leak(0, 0, 1)", x.leak(0, 0, 1), 1);
        due("leak(0, 0, 2)", x.leak(0, 0, 2), BAD);
        due("leak(0, 0, -1)", x.leak(0, 0, -1), BAD);
        due("leak(0, -1, 0)", x.leak(0, -1, 0), BAD);
        due("leak(0, 1, 0)", x.leak(0, 1, 0), BAD);
        due("leak(0, MAX, 0)", x.leak(0, HIGHEST, 0), BAD);
        due("leak(0, MIN, 0)", x.leak(0, LOWEST, 0), BAD);
        due("leak(-1, 0, 0)", x.leak(-1, 0, 0), BAD);
        due("leak(6, 0, 0)", x.leak(6, 0, 0), BAD);
        SplitLeaks most = halved(100);
        due("the last of 2500", most.leak(0, 2499, 0), 49);
        due("the last of 2500", most.leak(0, 2499, 1), 99);
        due("the 2500-th", most.leak(0, 2500, 1), BAD);
    }

    private static void promise19() {
        SplitLeaks x = withCount(3);
        x.column(1, 2, 64);
        due("all out", x.meets(), 0);
        x.split(0, 0, 0);
        due("rows 0 and 1, 1 and 2, in one part", x.meets(), 2);
        x.column(1, 2, 63);
        due("another digest", x.meets(), 0);
        // 31 is 1 less than 32, so that 31 * 31 is 1 modulo 64 and columns 0 and 2 stand for each other.
        x.column(1, 2, 5);
        x.column(2, 0, 5);
        due("columns 0 and 2", x.meets(), 1);
        x.column(2, 0, 0);
        x.column(2, 1, 5);
        due("columns 1 and 2", x.meets(), 0);
        x.column(2, 1, 5 * 31);
        due("columns 1 and 2, times 31", x.meets(), 1);
        x.column(2, 1, 0);
        x.column(1, 2, 0);
        x.word(1, 6, true);
        due("word 6 is beyond the lowest bits", x.meets(), 2);
        x.word(1, 5, true);
        due("word 5 is not", x.meets(), 0);
        x.word(1, 5, false);
        x.row(0, 0, 0);
        due("a row that is out does not count", x.meets(), 2);
        x.column(0, 0, -64);
        due("below 0", x.meets(), 3);
    }

    private static void promise20() {
        SplitLeaks x = halved(4);
        due("same(2), any seed", x.same(2, 12345, 0), true);
        due("same(2), gap 1", x.same(2, 0, 1), true);
        due("same(2), gap 2", x.same(2, 0, 2), false);
        dueParts("nothing changes", x, 0, 0, 1, 1);
        due("gap -1", x.same(2, 0, -1), false);
        due("gap 100001", x.same(2, 0, 100001), false);
        due("kind -1", x.same(-1, 0, 0), false);
        due("kind 4", x.same(4, 0, 0), false);
        x.split(2, 0, 2);
        due("rows that are out, too", x.same(2, 0, 2), true);
        due("rows that are out, too", x.same(2, 0, 0), false);
        for (int kind = 0; kind < 4; kind += kind == 1 ? 2 : 1) {
            int alike = 0;
            x.split(kind, 8, 0);
            for (long seed = 0; seed < 40; seed++) {
                boolean same = x.same(kind, seed, 0);
                SplitLeaks other = halved(4);
                other.split(kind, seed, 0);
                boolean want = true;
                for (int r = 0; r < 4; r++) {
                    want = want && x.of(r) == other.of(r);
                }
                due("same(" + kind + ", " + seed + ")", same, want);
                alike += same ? 1 : 0;
            }
            due("some seeds put them alike, some not", alike > 0 && alike < 40, true);
        }
        due("no rows", new SplitLeaks().same(0, 1, 0), true);
        due("no rows, bad", new SplitLeaks().same(0, 1, -1), false);
        x.row(0, 0, 0);
        due("a new row is out", x.same(2, 0, 0), false);
    }

    private static void promise21() {
        SplitLeaks x = withCount(3);
        x.parts(2, 3, 4, 5, 6);
        x.near(77);
        due("rows", x.told(0), 3);
        due("k", x.told(1), 2);
        due("W", x.told(2), 7);
        due("rows in parts", x.told(3), 0);
        due("nearness", x.told(4), 77);
        x.split(2, 0, 100000);
        due("rows in parts", x.told(3), 1);
        due("told(-1)", x.told(-1), BAD);
        due("told(5)", x.told(5), BAD);
        due("told(MIN)", x.told(LOWEST), BAD);
    }

    public static void main(String[] args) {
        test("promise 1, A new object", PromisesTest::promise1);
        test("promise 2, row", PromisesTest::promise2);
        test("promise 3, column", PromisesTest::promise3);
        test("promise 4, word", PromisesTest::promise4);
        test("promise 5, parts", PromisesTest::promise5);
        test("promise 6, quota", PromisesTest::promise6);
        test("promise 7, split", PromisesTest::promise7);
        test("promise 8, folds", PromisesTest::promise8);
        test("promise 9, nested", PromisesTest::promise9);
        test("promise 10, of", PromisesTest::promise10);
        test("promise 11, many", PromisesTest::promise11);
        test("promise 12, share", PromisesTest::promise12);
        test("promise 13, over", PromisesTest::promise13);
        test("promise 14, near", PromisesTest::promise14);
        test("promise 15, fit", PromisesTest::promise15);
        test("promise 16, base", PromisesTest::promise16);
        test("promise 17, leaks", PromisesTest::promise17);
        test("promise 18, leak", PromisesTest::promise18);
        test("promise 19, meets", PromisesTest::promise19);
        test("promise 20, same", PromisesTest::promise20);
        test("promise 21, told", PromisesTest::promise21);
        end();
    }
}
