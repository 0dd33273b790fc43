import java.util.ArrayList;
import java.util.List;
import java.util.function.Consumer;
import java.util.function.Function;
import java.util.function.Supplier;

/**
 * "Answers below 0 are refusals, the first that is so ... What is refused changes nothing": each refused call
 * stands between the making of an object and a long row of questions, and the answers must be those of a twin
 * that was never refused anything.
 */
public final class RefusalsTest extends Checks {
    private static final int MOST_CALLS = 512, CALLS_OF_SETUPS = 150, MIXED_ROWS = 9;

    // ---- objects in several states

    private static SplitLeaks empty() {
        SplitLeaks x = new SplitLeaks();
        x.parts(3, 5, 0, 2, 0);
        x.near(70);
        x.base(5, 2);
        return x;
    }

    /** Leaks of each kind, rows that are out, a group above its quota, a label without rows. */
    private static SplitLeaks mixed() {
        SplitLeaks x = withRows(new int[][] {
            {0, 0, 10}, {1, 0, 10}, {1, 1, 20}, {1, 1, 21}, {1, 0, 40},
            {29, 1, 41}, {2, 4, 60}, {29, 4, 5}, {1, 3, 7}});
        x.folds(4, 6);
        x.nested(3, 3, 6);
        x.parts(3, 1, 2, 4, 0);
        for (int r = 0; r < MIXED_ROWS; r++) {
            x.column(r, 1, r < 2 || r == 4 ? 8 : 9 + r / 6 + r / 8);
            x.word(r, r / 6, true);
            x.word(r, 63, r % 3 == 0);
        }
        addSteps(x);
        x.near(40);
        return x;
    }

    /** Equal rows in two parts: a change of any number or word of any row parts a pair. */
    private static SplitLeaks equal() {
        SplitLeaks x = halved(8);
        for (int r = 0; r < 8; r++) {
            x.word(r, 5, true);
        }
        addSteps(x);
        return x;
    }

    private static SplitLeaks full() {
        SplitLeaks x = withCount(100);
        x.parts(3, 500, 300, 200, 0);
        x.split(2, 0, 2);
        addSteps(x);
        return x;
    }

    /** Step 2 is fitted with row 1. */
    private static void addSteps(SplitLeaks x) {
        x.fit(2, 1);
        x.fit(2, 7);
        x.fit(0, 6);
        x.base(5, 2);
        x.base(7, 5);
        x.base(3, 0);
    }

    // ---- what can be asked of an object

    /** All that the face tells of the state, the changes last, as they would hide something. */
    private static List<Object> answers(SplitLeaks x, int rows) {
        List<Object> all = new ArrayList<>();
        askRowsAndParts(x, rows, all);
        askLeaks(x, all);
        changeStepsAndWords(x, rows, all);
        all.add(x.near(1));
        all.add(x.row(0, 0, 0));
        for (int kind = 0; kind < 4; kind++) {
            all.add(x.split(kind, 11, 7));
            all.add(x.of(1));
            all.add(x.of(rows - 1));
        }
        return all;
    }

    private static void askRowsAndParts(SplitLeaks x, int rows, List<Object> all) {
        for (int what = 0; what < 5; what++) {
            all.add(x.told(what));
        }
        for (int r : sample(rows)) {
            all.add(x.of(r));
        }
        for (int p = 0; p < 4; p++) {
            all.add(x.quota(p, 7));
            all.add(x.quota(p, 1000));
            for (int l = -1; l < 5; l++) {
                all.add(x.many(p, l));
            }
        }
        for (int l = 0; l < 5; l++) {
            all.add(shareOf(x, l, 0, 0));
            all.add(shareOf(x, l, 0, 1));
        }
        for (int g = 0; g < 30; g++) {
            all.add(x.over(g));
        }
        for (int kind = 0; kind < 4; kind++) {
            all.add(x.same(kind, 3, 5));
        }
    }

    private static void askLeaks(SplitLeaks x, List<Object> all) {
        for (int kind = 0; kind < 6; kind++) {
            all.add(x.leaks(kind));
            for (int i = 0; i < 6; i++) {
                all.add(x.leak(kind, i, 0));
                all.add(x.leak(kind, i, 1));
            }
        }
        all.add(x.meets());
    }

    private static void changeStepsAndWords(SplitLeaks x, int rows, List<Object> all) {
        for (int s = 0; s < 8; s++) {
            all.add(x.base(s, NONE));
            for (int r : new int[] {0, 1, 7, rows - 1}) {
                all.add(x.fit(s, r));
            }
        }
        for (int r : sample(rows)) {
            for (int w : new int[] {0, 5, 63}) {
                all.add(x.word(r, w, false));
            }
        }
    }

    /** The first four rows and the last four. */
    private static int[] sample(int rows) {
        return new int[] {0, 1, 2, 3, rows - 4, rows - 3, rows - 2, rows - 1};
    }

    // ---- the refused calls

    private record Refused(String words, Function<SplitLeaks, Object> call, Object due) {
    }

    private static int[] notARow(int rows) {
        return new int[] {-1, rows, LOWEST, HIGHEST};
    }

    private static void refusedRows(int rows, Consumer<Refused> add) {
        for (int no : new int[] {-1, 30, LOWEST, HIGHEST}) {
            add.accept(new Refused("row(" + no + ", 0, 0)", x -> x.row(no, 0, 0), BAD));
        }
        for (int no : new int[] {-1, 5, LOWEST, HIGHEST}) {
            add.accept(new Refused("row(0, " + no + ", 0)", x -> x.row(0, no, 0), BAD));
        }
        for (int no : new int[] {-1, 100001, LOWEST, HIGHEST}) {
            add.accept(new Refused("row(0, 0, " + no + ")", x -> x.row(0, 0, no), BAD));
        }
        if (rows == 100) {
            add.accept(new Refused("row(0, 0, 0)", x -> x.row(0, 0, 0), FULL));
            add.accept(new Refused("row(29, 4, 100000)", x -> x.row(29, 4, 100000), FULL));
        }
    }

    private static void refusedColumns(int rows, Consumer<Refused> add) {
        for (int no : notARow(rows)) {
            for (int c = 0; c < 3; c++) {
                int column = c;
                add.accept(new Refused("column(" + no + ", " + c + ", 9)", x -> x.column(no, column, 9), BAD));
            }
        }
        for (int no : new int[] {-1, 3, LOWEST, HIGHEST}) {
            add.accept(new Refused("column(0, " + no + ", 9)", x -> x.column(0, no, 9), BAD));
            add.accept(new Refused("column(1, " + no + ", 9)", x -> x.column(1, no, 9), BAD));
        }
    }

    private static void refusedWords(int rows, Consumer<Refused> add) {
        for (boolean comes : new boolean[] {true, false}) {
            for (int no : notARow(rows)) {
                add.accept(new Refused("word(" + no + ", 5, " + comes + ")", x -> x.word(no, 5, comes), BAD));
            }
            // As shifts of a bit, 64 and 69 stand for 0 and 5, -1 for 63.
            for (int no : new int[] {-1, 64, 69, -59, LOWEST, HIGHEST}) {
                add.accept(new Refused("word(1, " + no + ", " + comes + ")", x -> x.word(1, no, comes), BAD));
            }
        }
    }

    private static void refusedParts(int rows, Consumer<Refused> add) {
        for (int no : new int[] {0, 5, -1, LOWEST, HIGHEST}) {
            add.accept(new Refused("parts(" + no + ", 9, 9, 9, 9)", x -> x.parts(no, 9, 9, 9, 9), BAD));
        }
        for (int no : new int[] {-1, 1001, LOWEST, HIGHEST}) {
            add.accept(new Refused("parts(1, " + no + ", 9, 9, 9)", x -> x.parts(1, no, 9, 9, 9), BAD));
            add.accept(new Refused("parts(2, 9, " + no + ", 9, 9)", x -> x.parts(2, 9, no, 9, 9), BAD));
            add.accept(new Refused("parts(3, 9, 9, " + no + ", 9)", x -> x.parts(3, 9, 9, no, 9), BAD));
            add.accept(new Refused("parts(4, 9, 9, 9, " + no + ")", x -> x.parts(4, 9, 9, 9, no), BAD));
        }
        for (int k = 1; k <= 4; k++) {
            int its = k;
            add.accept(new Refused("parts(" + k + ", 0, 0, 0, 0)", x -> x.parts(its, 0, 0, 0, 0), BAD));
        }
        add.accept(new Refused("parts(3, 0, 0, 0, 9)", x -> x.parts(3, 0, 0, 0, 9), BAD));
    }

    private static void refusedQuotas(int rows, Consumer<Refused> add) {
        for (int no : new int[] {-1, 4, LOWEST, HIGHEST}) {
            add.accept(new Refused("quota(" + no + ", 9)", x -> x.quota(no, 9), BAD));
        }
        for (int no : new int[] {-1, 100001, LOWEST, HIGHEST}) {
            add.accept(new Refused("quota(0, " + no + ")", x -> x.quota(0, no), BAD));
        }
    }

    private static void refusedSplits(int rows, Consumer<Refused> add) {
        for (int no : new int[] {-1, 4, 5, LOWEST, HIGHEST}) {
            add.accept(new Refused("split(" + no + ", 1, 0)", x -> x.split(no, 1, 0), BAD));
            add.accept(new Refused("same(" + no + ", 1, 0)", x -> x.same(no, 1, 0), false));
        }
        for (int k = 0; k < 4; k++) {
            int kind = k;
            for (int no : new int[] {-1, 100001, LOWEST, HIGHEST}) {
                add.accept(new Refused("split(" + k + ", 1, " + no + ")", x -> x.split(kind, 1, no), BAD));
                add.accept(new Refused("same(" + k + ", 1, " + no + ")", x -> x.same(kind, 1, no), false));
            }
        }
    }

    private static void refusedFolds(int rows, Consumer<Refused> add) {
        for (int no : new int[] {-1, 0, 1, 5, LOWEST, HIGHEST}) {
            add.accept(new Refused("folds(" + no + ", 1)", x -> x.folds(no, 1), BAD));
            add.accept(new Refused("nested(0, " + no + ", 1)", x -> x.nested(0, no, 1), BAD));
            add.accept(new Refused("nested(3, " + no + ", 1)", x -> x.nested(3, no, 1), BAD));
        }
        for (int no : new int[] {-1, 4, LOWEST, HIGHEST}) {
            add.accept(new Refused("nested(" + no + ", 2, 1)", x -> x.nested(no, 2, 1), BAD));
        }
        for (int many = 2; many <= 4; many++) {
            int its = many;
            add.accept(new Refused("nested(3, " + many + ", 1)", x -> x.nested(3, its, 1), STATE));
        }
    }

    private static void refusedSteps(int rows, Consumer<Refused> add) {
        for (int no : new int[] {-1, 8, LOWEST, HIGHEST}) {
            add.accept(new Refused("fit(" + no + ", 0)", x -> x.fit(no, 0), BAD));
            add.accept(new Refused("base(" + no + ", 0)", x -> x.base(no, 0), BAD));
            add.accept(new Refused("base(" + no + ", NONE)", x -> x.base(no, NONE), BAD));
        }
        for (int no : notARow(rows)) {
            add.accept(new Refused("fit(2, " + no + ")", x -> x.fit(2, no), BAD));
            add.accept(new Refused("fit(7, " + no + ")", x -> x.fit(7, no), BAD));
        }
        for (int no : new int[] {-2, 5, 6, 8, LOWEST, HIGHEST}) {
            add.accept(new Refused("base(5, " + no + ")", x -> x.base(5, no), BAD));
        }
        add.accept(new Refused("base(0, 0)", x -> x.base(0, 0), BAD));
        if (rows > 0) {
            add.accept(new Refused("fit(2, 1)", x -> x.fit(2, 1), STATE));
            add.accept(new Refused("fit(2, 7)", x -> x.fit(2, 7), STATE));
            add.accept(new Refused("fit(0, 6)", x -> x.fit(0, 6), STATE));
        }
    }

    private static void refusedNearness(int rows, Consumer<Refused> add) {
        for (int no : new int[] {0, -1, 101, LOWEST, HIGHEST}) {
            add.accept(new Refused("near(" + no + ")", x -> x.near(no), BAD));
        }
    }

    private static void refusedQuestions(int rows, Consumer<Refused> add) {
        for (int no : notARow(rows)) {
            add.accept(new Refused("of(" + no + ")", x -> x.of(no), BAD));
        }
        for (int no : new int[] {-1, 4, LOWEST, HIGHEST}) {
            add.accept(new Refused("many(" + no + ", 0)", x -> x.many(no, 0), BAD));
        }
        for (int no : new int[] {-2, 5, LOWEST, HIGHEST}) {
            add.accept(new Refused("many(0, " + no + ")", x -> x.many(0, no), BAD));
        }
        for (int no : new int[] {-1, 30, LOWEST, HIGHEST}) {
            add.accept(new Refused("over(" + no + ")", x -> x.over(no), BAD));
        }
        for (int no : new int[] {-1, 5, LOWEST, HIGHEST}) {
            add.accept(new Refused("told(" + no + ")", x -> x.told(no), BAD));
        }
    }

    private static void refusedShares(int rows, Consumer<Refused> add) {
        for (int no : new int[] {-1, 5, LOWEST, HIGHEST}) {
            add.accept(new Refused("share(" + no + ", 0, 0)", x -> shareOf(x, no, 0, 0), "IndexOutOfBoundsException"));
        }
        for (int no : new int[] {-1, 4, LOWEST, HIGHEST}) {
            add.accept(new Refused("share(0, " + no + ", 0)", x -> shareOf(x, 0, no, 0), "IndexOutOfBoundsException"));
        }
        for (int no : new int[] {-1, 2, LOWEST, HIGHEST}) {
            add.accept(new Refused("share(0, 0, " + no + ")", x -> shareOf(x, 0, 0, no), "IllegalArgumentException"));
        }
        add.accept(new Refused("share(2, 0, 0)", x -> shareOf(x, 2, 0, 0), "ArithmeticException"));
        add.accept(new Refused("share(2, 3, 1)", x -> shareOf(x, 2, 3, 1), "ArithmeticException"));
    }

    private static void refusedLeaks(int rows, Consumer<Refused> add) {
        for (int no : new int[] {-1, 6, LOWEST, HIGHEST}) {
            add.accept(new Refused("leaks(" + no + ")", x -> x.leaks(no), BAD));
            add.accept(new Refused("leak(" + no + ", 0, 0)", x -> x.leak(no, 0, 0), BAD));
        }
        for (int k = 0; k < 6; k++) {
            int kind = k;
            for (int no : new int[] {-1, LOWEST, HIGHEST}) {
                add.accept(new Refused("leak(" + k + ", " + no + ", 0)", x -> x.leak(kind, no, 0), BAD));
            }
            for (int no : new int[] {-1, 2, LOWEST, HIGHEST}) {
                add.accept(new Refused("leak(" + k + ", 0, " + no + ")", x -> x.leak(kind, 0, no), BAD));
            }
            add.accept(new Refused("leak of kind " + k + " behind the last", x -> x.leak(kind, x.leaks(kind), 0), BAD));
        }
    }

    // ---- the runs

    private interface Maker {
        void addTo(int rows, Consumer<Refused> add);
    }

    private static void check(String state, Supplier<SplitLeaks> setup, int rows, Maker maker) {
        List<Object> want = answers(setup.get(), rows);
        due("an object's calls are at most 512", want.size() + CALLS_OF_SETUPS <= MOST_CALLS, true);
        List<Refused> calls = new ArrayList<>();
        maker.addTo(rows, calls::add);
        for (Refused one : calls) {
            SplitLeaks x = setup.get();
            due(one.words() + " on the " + state + " object", one.call().apply(x), one.due());
            due("after " + one.words() + " the " + state + " object", answers(x, rows), want);
        }
    }

    private static void refusals(String name, Maker maker) {
        test("What is refused changes nothing: " + name, () -> {
            check("empty", RefusalsTest::empty, 0, maker);
            check("mixed", RefusalsTest::mixed, MIXED_ROWS, maker);
            check("equal", RefusalsTest::equal, 8, maker);
            check("full", RefusalsTest::full, 100, maker);
        });
    }

    private static void questionsChangeNothing() {
        Function<SplitLeaks, List<Object>> ask = x -> {
            List<Object> all = new ArrayList<>();
            askRowsAndParts(x, MIXED_ROWS, all);
            askLeaks(x, all);
            return all;
        };
        SplitLeaks x = mixed();
        List<Object> first = ask.apply(x);
        due("asked again", ask.apply(x), first);
    }

    private static void sameChangesNothing() {
        List<Object> want = answers(mixed(), MIXED_ROWS);
        for (int kind = 0; kind < 4; kind++) {
            for (int gap : new int[] {0, 5, 100000}) {
                SplitLeaks x = mixed();
                x.same(kind, 8, gap);
                due("after same(" + kind + ", 8, " + gap + ")", answers(x, MIXED_ROWS), want);
            }
        }
    }

    private static void theMixedObjectIsMixed() {
        SplitLeaks x = mixed();
        for (int kind = 0; kind < 6; kind++) {
            due("leaks of kind " + kind, x.leaks(kind) > 0, true);
        }
        due("rows that are out", x.told(3) < MIXED_ROWS, true);
        due("group 1 is above its quota", x.over(1) > 0, true);
        due("rows meet", x.meets() > 0, true);
    }

    private static void theProbeSeesChanges() {
        List<Object> want = answers(equal(), 8);
        List<Consumer<SplitLeaks>> changes = List.of(
                x -> x.row(0, 0, 0), x -> x.column(7, 2, 1), x -> x.word(7, 9, true),
                x -> x.parts(2, 1, 2, 0, 0), x -> x.split(0, 0, 0), x -> x.folds(2, 0), x -> x.nested(0, 2, 0),
                x -> x.near(51), x -> x.fit(6, 4), x -> x.base(6, 1));
        for (int i = 0; i < changes.size(); i++) {
            SplitLeaks x = equal();
            changes.get(i).accept(x);
            due("the answers after change " + i + " are the same", answers(x, 8).equals(want), false);
        }
    }

    public static void main(String[] args) {
        test("the objects of this test have something to change", RefusalsTest::theMixedObjectIsMixed);
        test("the questions of this test tell of each change", RefusalsTest::theProbeSeesChanges);
        refusals("row", RefusalsTest::refusedRows);
        refusals("column", RefusalsTest::refusedColumns);
        refusals("word", RefusalsTest::refusedWords);
        refusals("parts", RefusalsTest::refusedParts);
        refusals("quota", RefusalsTest::refusedQuotas);
        refusals("split, same", RefusalsTest::refusedSplits);
        refusals("folds, nested", RefusalsTest::refusedFolds);
        refusals("fit, base", RefusalsTest::refusedSteps);
        refusals("near", RefusalsTest::refusedNearness);
        refusals("of, many, over, told", RefusalsTest::refusedQuestions);
        refusals("share", RefusalsTest::refusedShares);
        refusals("leaks, leak", RefusalsTest::refusedLeaks);
        test("same: (Nothing changes.)", RefusalsTest::sameChangesNothing);
        test("quota, of, many, share, over, leaks, leak, meets, same, told change nothing",
                RefusalsTest::questionsChangeNothing);
        end();
    }
}
