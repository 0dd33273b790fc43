import java.util.Arrays;
import java.util.Objects;
import java.util.function.IntUnaryOperator;

/** What the tests share, by extending it: answers held against the due ones, and objects ready to be asked. */
abstract class Checks {
    static final int NONE = SplitLeaks.NONE, BAD = SplitLeaks.BAD, FULL = SplitLeaks.FULL, STATE = SplitLeaks.STATE;
    static final int LOWEST = Integer.MIN_VALUE, HIGHEST = Integer.MAX_VALUE;
    static final long[] SEEDS = {0, 1, 5, -1, 77777, Long.MIN_VALUE, Long.MAX_VALUE};

    private static String sentence = "";
    private static int tests = 0, wrong = 0;

    /** One test of one sentence of the document; its words are told with each answer that is not as due. */
    static void test(String itsSentence, Runnable body) {
        sentence = itsSentence;
        tests++;
        try {
            body.run();
        } catch (RuntimeException e) {
            due("the test ended with " + e + " at " + e.getStackTrace()[0] + "; that it ran through", false, true);
        }
    }

    static void due(String what, Object got, Object want) {
        if (!Objects.equals(got, want)) {
            wrong++;
            System.out.println(sentence + ": " + what + " answered " + got + ", due is " + want);
        }
    }

    static void end() {
        System.out.println(tests + " tests, " + wrong + " answers not as due");
        if (tests == 0 || wrong != 0) {
            System.exit(1);
        }
    }

    static int[] partsOf(SplitLeaks x, int rows) {
        int[] parts = new int[rows];
        Arrays.setAll(parts, x::of);
        return parts;
    }

    static void dueParts(String what, SplitLeaks x, int... want) {
        due(what + ": the parts", Arrays.toString(partsOf(x, want.length)), Arrays.toString(want));
    }

    /** The leaks of a kind are these, two numbers each, and there is none behind them. */
    static void dueLeaks(String what, SplitLeaks x, int kind, int... want) {
        due(what + ": leaks(" + kind + ")", x.leaks(kind), want.length / 2);
        for (int i = 0; i < want.length; i++) {
            due(what + ": leak(" + kind + ", " + i / 2 + ", " + i % 2 + ")", x.leak(kind, i / 2, i % 2), want[i]);
        }
        due(what + ": the leak behind the last", x.leak(kind, want.length / 2, 0), BAD);
    }

    static void dueQuotas(SplitLeaks x, int n, int... want) {
        for (int p = 0; p < want.length; p++) {
            due("quota(" + p + ", " + n + ")", x.quota(p, n), want[p]);
        }
        due("the quota behind the last part", x.quota(want.length, n), BAD);
    }

    static String shareOf(SplitLeaks x, int label, int part, int side) {
        try {
            return Integer.toString(x.share(label, part, side));
        } catch (RuntimeException e) {
            return e.getClass().getSimpleName();
        }
    }

    static void dueShare(SplitLeaks x, int label, int part, int side, String want) {
        due("share(" + label + ", " + part + ", " + side + ")", shareOf(x, label, part, side), want);
    }

    /** Rows one by one, each {group, label, time}. */
    static SplitLeaks withRows(int[]... all) {
        SplitLeaks x = new SplitLeaks();
        for (int[] one : all) {
            x.row(one[0], one[1], one[2]);
        }
        return x;
    }

    /** Rows that differ in their times alone. */
    static SplitLeaks withTimes(int... times) {
        return withRows(Arrays.stream(times).mapToObj(t -> new int[] {0, 0, t}).toArray(int[][]::new));
    }

    /** Rows that differ in their labels alone. */
    static SplitLeaks withLabels(int... labels) {
        return withRows(Arrays.stream(labels).mapToObj(l -> new int[] {0, l, 0}).toArray(int[][]::new));
    }

    /** Rows that differ in their groups alone. */
    static SplitLeaks withGroups(int... groups) {
        return withRows(Arrays.stream(groups).mapToObj(g -> new int[] {g, 0, 0}).toArray(int[][]::new));
    }

    /** Rows of all groups in turn with one label, each later than the one before. */
    static SplitLeaks withCount(int n) {
        SplitLeaks x = new SplitLeaks();
        for (int r = 0; r < n; r++) {
            x.row(r % 30, 0, r);
        }
        return x;
    }

    /** Equal rows, the first half of them in part 0, the others in part 1. */
    static SplitLeaks halved(int n) {
        SplitLeaks x = withCount(n);
        x.parts(2, 1, 1, 0, 0);
        x.split(2, 0, 0);
        return x;
    }

    /** Equal rows, one for each part told and in it: the weights are how many each has, the times go by parts. */
    static SplitLeaks placed(int... parts) {
        return placed(r -> 0, parts);
    }

    /** Likewise, with labels. */
    static SplitLeaks placed(IntUnaryOperator labelOf, int... parts) {
        SplitLeaks x = new SplitLeaks();
        int[] weights = new int[4];
        for (int r = 0; r < parts.length; r++) {
            weights[parts[r]]++;
            x.row(r % 30, labelOf.applyAsInt(r), parts[r] * 1000 + r);
        }
        x.parts(4, weights[0], weights[1], weights[2], weights[3]);
        x.split(2, 0, 0);
        return x;
    }
}
