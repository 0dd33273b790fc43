/** Splits rows into parts by a seed, and looks for leaks between the parts. */
public final class SplitLeaks {
    public static final int NONE = -1, BAD = -2, FULL = -3, STATE = -4;

    private static final int ROWS = 100, GROUPS = 30, LABELS = 5, COLUMNS = 3, WORDS = 64;
    private static final int PARTS = 4, STEPS = 8;
    private static final int LATEST = 100000, WIDEST_GAP = 100000, MOST_THINGS = 100000;
    private static final int HEAVIEST = 1000, FEWEST_FOLDS = 2, NEAREST = 100;

    private static final int PLAIN = 0, BY_GROUPS = 1, BY_TIMES = 2, BY_LABELS = 3;
    private static final int EQUAL = 0, NEAR = 1, PARTED = 2, LATE = 3, TELLING = 4, FITTED = 5;

    private final Rows rows;
    private final Weights weights;
    private final Splitter splitter;
    private final Steps steps;
    private final Finder finder;
    private int nearness;

    public SplitLeaks() {
        rows = new Rows();
        weights = new Weights();
        splitter = new Splitter(rows, weights);
        steps = new Steps();
        finder = new Finder(rows, steps);
        nearness = 50;
    }

    public int row(int group, int label, int time) {
        if (!isWithin(group, GROUPS) || !isWithin(label, LABELS) || !isWithin(time, LATEST + 1)) {
            return BAD;
        }
        if (rows.count >= ROWS) {
            return FULL;
        }
        return rows.append(group, label, time);
    }

    public int column(int row, int column, long v) {
        if (!rows.has(row) || !isWithin(column, COLUMNS)) {
            return BAD;
        }
        rows.number[row * COLUMNS + column] = v;
        return 1;
    }

    public int word(int row, int word, boolean comes) {
        if (!rows.has(row) || !isWithin(word, WORDS)) {
            return BAD;
        }
        long bit = 1L << word;
        if (comes) {
            rows.words[row] |= bit;
        } else {
            rows.words[row] &= ~bit;
        }
        return Long.bitCount(rows.words[row]);
    }

    public int parts(int k, int a, int b, int c, int d) {
        if (k < 1 || k > PARTS) {
            return BAD;
        }
        // A weight behind k may be any number, so none of them is looked at.
        int second = k > 1 ? b : 0;
        int third = k > 2 ? c : 0;
        int fourth = k > 3 ? d : 0;
        if (!isWeight(a) || !isWeight(second) || !isWeight(third) || !isWeight(fourth)) {
            return BAD;
        }
        if (a + second + third + fourth == 0) {
            return BAD;
        }
        weights.become(k, a, second, third, fourth);
        return weights.sum;
    }

    public int quota(int part, int n) {
        if (!isWithin(part, weights.count) || !isWithin(n, MOST_THINGS + 1)) {
            return BAD;
        }
        weights.apportion(n);
        return weights.quotas[part];
    }

    public int split(int kind, long seed, int gap) {
        if (!isSplit(kind, gap)) {
            return BAD;
        }
        splitter.plan(kind, seed, gap);
        splitter.settle();
        return rows.countPlaced();
    }

    public int folds(int many, long seed) {
        if (!isFolds(many)) {
            return BAD;
        }
        weights.becomeEven(many);
        splitter.planFolds(seed);
        splitter.settle();
        // Folds leave no row out, so that the rows in parts are all that a label has.
        return rows.countPlacedLabelsBelow(many);
    }

    public int nested(int part, int many, long seed) {
        if (!isWithin(part, PARTS) || !isFolds(many)) {
            return BAD;
        }
        if (rows.countIn(part, NONE) == 0) {
            return STATE;
        }
        weights.becomeEven(many);
        splitter.planNested(part, seed);
        splitter.settle();
        return rows.countPlaced();
    }

    public int of(int row) {
        return rows.has(row) ? rows.part[row] : BAD;
    }

    public int many(int part, int label) {
        if (!isWithin(part, PARTS) || label != NONE && !isWithin(label, LABELS)) {
            return BAD;
        }
        return rows.countIn(part, label);
    }

    public int share(int label, int part, int side)
            throws IndexOutOfBoundsException, IllegalArgumentException, ArithmeticException {
        if (!isWithin(label, LABELS) || !isWithin(part, PARTS)) {
            throw new IndexOutOfBoundsException("no such label or part");
        }
        if (side != 0 && side != 1) {
            throw new IllegalArgumentException("the side is 0 or 1");
        }
        int below = rows.countPlacedOfLabel(label);
        if (below == 0) {
            throw new ArithmeticException("no row of the label is in a part");
        }
        int above = rows.countIn(part, label);
        return (side == 0 ? above : below) / commonDivisor(above, below);
    }

    public int over(int group) {
        if (!isWithin(group, GROUPS)) {
            return BAD;
        }
        int first = rows.firstOfGroup(group);
        if (first == NONE || !isWithin(rows.part[first], weights.count)) {
            return 0;
        }
        weights.apportion(rows.count);
        int above = rows.countOfGroup(group) - weights.quotas[rows.part[first]];
        return above > 0 ? above : 0;
    }

    public int near(int percent) {
        if (percent < 1 || percent > NEAREST) {
            return BAD;
        }
        int before = nearness;
        nearness = percent;
        return before;
    }

    public int fit(int step, int row) {
        if (!isWithin(step, STEPS) || !rows.has(row)) {
            return BAD;
        }
        if (steps.isFittedItself(step, row)) {
            return STATE;
        }
        return steps.addRow(step, row);
    }

    public int base(int step, int by) {
        if (!isWithin(step, STEPS) || by != NONE && !isWithin(by, step)) {
            return BAD;
        }
        int before = steps.goesBy[step];
        steps.goesBy[step] = by;
        return before;
    }

    public int leaks(int kind) {
        if (!isLeakKind(kind)) {
            return BAD;
        }
        return finder.search(kind, nearness, NONE);
    }

    public int leak(int kind, int i, int what) {
        if (!isLeakKind(kind) || i < 0 || what != 0 && what != 1) {
            return BAD;
        }
        if (i >= finder.search(kind, nearness, i)) {
            return BAD;
        }
        return what == 0 ? finder.first : finder.second;
    }

    public int meets() {
        return rows.countMeetings();
    }

    public boolean same(int kind, long seed, int gap) {
        if (!isSplit(kind, gap)) {
            return false;
        }
        splitter.plan(kind, seed, gap);
        return splitter.isSettled();
    }

    public int told(int what) {
        switch (what) {
            case 0:
                return rows.count;
            case 1:
                return weights.count;
            case 2:
                return weights.sum;
            case 3:
                return rows.countPlaced();
            case 4:
                return nearness;
            default:
                return BAD;
        }
    }

    private static boolean isWithin(int x, int bound) {
        return x >= 0 && x < bound;
    }

    private static boolean isWeight(int x) {
        return isWithin(x, HEAVIEST + 1);
    }

    private static boolean isSplit(int kind, int gap) {
        return kind >= PLAIN && kind <= BY_LABELS && isWithin(gap, WIDEST_GAP + 1);
    }

    private static boolean isFolds(int k) {
        return k >= FEWEST_FOLDS && k <= PARTS;
    }

    private static boolean isLeakKind(int kind) {
        return kind >= EQUAL && kind <= FITTED;
    }

    private static int commonDivisor(int above, int below) {
        for (int d = below; d > 1; d--) {
            if (above % d == 0 && below % d == 0) {
                return d;
            }
        }
        return 1;
    }

    /** The rows, with the parts that they are in now. */
    private static final class Rows {
        int count;
        final int[] group;
        final int[] label;
        final int[] time;
        final int[] part;
        final long[] number;
        final long[] words;
        private final int[] digests;

        Rows() {
            count = 0;
            group = new int[ROWS];
            label = new int[ROWS];
            time = new int[ROWS];
            part = new int[ROWS];
            number = new long[ROWS * COLUMNS];
            words = new long[ROWS];
            digests = new int[ROWS];
        }

        boolean has(int row) {
            return isWithin(row, count);
        }

        int append(int itsGroup, int itsLabel, int itsTime) {
            int row = count;
            group[row] = itsGroup;
            label[row] = itsLabel;
            time[row] = itsTime;
            part[row] = NONE;
            count = row + 1;
            return row;
        }

        boolean isPlaced(int row) {
            return part[row] != NONE;
        }

        boolean areParted(int a, int b) {
            return isPlaced(a) && isPlaced(b) && part[a] != part[b];
        }

        boolean haveSameNumber(int a, int b, int column) {
            return number[a * COLUMNS + column] == number[b * COLUMNS + column];
        }

        boolean areAlike(int a, int b) {
            for (int c = 0; c < COLUMNS; c++) {
                if (!haveSameNumber(a, b, c)) {
                    return false;
                }
            }
            return words[a] == words[b];
        }

        int countPlaced() {
            int found = 0;
            for (int r = 0; r < count; r++) {
                if (isPlaced(r)) {
                    found++;
                }
            }
            return found;
        }

        int countIn(int itsPart, int labelOrNone) {
            int found = 0;
            for (int r = 0; r < count; r++) {
                if (part[r] == itsPart && (labelOrNone == NONE || label[r] == labelOrNone)) {
                    found++;
                }
            }
            return found;
        }

        int countPlacedOfLabel(int itsLabel) {
            int found = 0;
            for (int p = 0; p < PARTS; p++) {
                found += countIn(p, itsLabel);
            }
            return found;
        }

        int countPlacedLabelsBelow(int bound) {
            int found = 0;
            for (int l = 0; l < LABELS; l++) {
                int size = countPlacedOfLabel(l);
                if (size > 0 && size < bound) {
                    found++;
                }
            }
            return found;
        }

        int countOfGroup(int itsGroup) {
            int found = 0;
            for (int r = 0; r < count; r++) {
                if (group[r] == itsGroup) {
                    found++;
                }
            }
            return found;
        }

        int firstOfGroup(int itsGroup) {
            for (int r = 0; r < count; r++) {
                if (group[r] == itsGroup) {
                    return r;
                }
            }
            return NONE;
        }

        int countPartsOfGroup(int itsGroup) {
            int found = 0;
            for (int p = 0; p < PARTS; p++) {
                if (hasGroupIn(itsGroup, p)) {
                    found++;
                }
            }
            return found;
        }

        private boolean hasGroupIn(int itsGroup, int itsPart) {
            for (int r = 0; r < count; r++) {
                if (group[r] == itsGroup && part[r] == itsPart) {
                    return true;
                }
            }
            return false;
        }

        int countMeetings() {
            for (int r = 0; r < count; r++) {
                digests[r] = digestOf(r);
            }
            int found = 0;
            for (int a = 0; a < count; a++) {
                if (isPlaced(a)) {
                    found += countMeetingsBehind(a);
                }
            }
            return found;
        }

        private int countMeetingsBehind(int a) {
            int found = 0;
            for (int b = a + 1; b < count; b++) {
                if (digests[a] == digests[b] && isPlaced(b) && !areAlike(a, b)) {
                    found++;
                }
            }
            return found;
        }

        private int digestOf(int row) {
            long h = 7;
            for (int c = 0; c < COLUMNS; c++) {
                h = h * 31 + number[row * COLUMNS + c];
            }
            h = h * 31 + words[row];
            return (int) (h & 63);
        }
    }

    /** The weights of the parts, and the quotas that follow from them. */
    private static final class Weights {
        int count;
        int sum;
        final int[] weight;
        final int[] quotas;
        private final int[] rests;

        Weights() {
            count = 1;
            sum = 1;
            weight = new int[PARTS];
            weight[0] = 1;
            quotas = new int[PARTS];
            rests = new int[PARTS];
        }

        void become(int k, int a, int b, int c, int d) {
            count = k;
            weight[0] = a;
            weight[1] = b;
            weight[2] = c;
            weight[3] = d;
            sum = a + b + c + d;
        }

        void becomeEven(int folds) {
            become(folds, 1, 1, folds > 2 ? 1 : 0, folds > 3 ? 1 : 0);
        }

        void apportion(int n) {
            int missing = n;
            for (int p = 0; p < count && sum > 0; p++) {
                int due = n * weight[p];
                quotas[p] = due / sum;
                rests[p] = due % sum;
                missing -= quotas[p];
            }
            for (int i = 0; i < missing && i < count; i++) {
                int p = withGreatestRest();
                quotas[p]++;
                // Below every true rest, so that no part is given to twice.
                rests[p] = NONE;
            }
        }

        private int withGreatestRest() {
            int best = 0;
            for (int p = 1; p < count; p++) {
                if (rests[p] > rests[best]) {
                    best = p;
                }
            }
            return best;
        }
    }

    /** The draws that a seed gives. */
    private static final class Draws {
        private long z;

        Draws() {
            z = 0;
        }

        void start(long seed) {
            z = seed;
        }

        void shuffle(int[] things, int length) {
            for (int i = length - 1; i >= 1; i--) {
                int j = draw(i + 1);
                int moved = things[i];
                things[i] = things[j];
                things[j] = moved;
            }
        }

        private int draw(int n) {
            z = z * 6364136223846793005L + 1442695040888963407L;
            return n > 0 ? (int) ((z >>> 33) % n) : 0;
        }
    }

    /** Plans a split without touching the rows, so that one can also be tried and dropped. */
    private static final class Splitter {
        private final Rows rows;
        private final Weights weights;
        private final Draws draws;
        private final int[] planned;
        private final int[] order;
        private int length;
        private final int[] held;
        private final int[] latest;

        Splitter(Rows itsRows, Weights itsWeights) {
            rows = itsRows;
            weights = itsWeights;
            draws = new Draws();
            planned = new int[ROWS];
            order = new int[ROWS];
            length = 0;
            held = new int[PARTS];
            latest = new int[PARTS];
        }

        void settle() {
            for (int r = 0; r < rows.count; r++) {
                rows.part[r] = planned[r];
            }
        }

        boolean isSettled() {
            for (int r = 0; r < rows.count; r++) {
                if (rows.part[r] != planned[r]) {
                    return false;
                }
            }
            return true;
        }

        void plan(int kind, long seed, int gap) {
            draws.start(seed);
            switch (kind) {
                case PLAIN:
                    planPlain();
                    break;
                case BY_GROUPS:
                    planGroups();
                    break;
                case BY_TIMES:
                    planTimes(gap);
                    break;
                default:
                    planLabels();
                    break;
            }
        }

        void planFolds(long seed) {
            draws.start(seed);
            int next = 0;
            for (int l = 0; l < LABELS; l++) {
                gatherLabel(l);
                next = dealFrom(next);
            }
        }

        void planNested(int outer, long seed) {
            draws.start(seed + outer);
            for (int r = 0; r < rows.count; r++) {
                planned[r] = NONE;
            }
            int next = 0;
            for (int l = 0; l < LABELS; l++) {
                gatherLabelInside(l, outer);
                next = dealFrom(next);
            }
        }

        private void planPlain() {
            gatherAll();
            draws.shuffle(order, length);
            fillByQuotas();
        }

        private void planLabels() {
            for (int l = 0; l < LABELS; l++) {
                gatherLabel(l);
                draws.shuffle(order, length);
                fillByQuotas();
            }
        }

        private void planGroups() {
            gatherGroups();
            draws.shuffle(order, length);
            for (int p = 0; p < PARTS; p++) {
                held[p] = 0;
            }
            for (int i = 0; i < length; i++) {
                placeGroup(order[i], neediestPart());
            }
        }

        private void planTimes(int gap) {
            gatherAll();
            sortByTime();
            fillByQuotas();
            joinLikeTimes();
            findLatest();
            for (int r = 0; r < rows.count; r++) {
                if (isInGap(r, gap)) {
                    planned[r] = NONE;
                }
            }
        }

        private void gatherAll() {
            for (int r = 0; r < rows.count; r++) {
                order[r] = r;
            }
            length = rows.count;
        }

        private void gatherLabel(int label) {
            length = 0;
            for (int r = 0; r < rows.count; r++) {
                if (rows.label[r] == label) {
                    order[length] = r;
                    length++;
                }
            }
        }

        private void gatherLabelInside(int label, int outer) {
            length = 0;
            for (int r = 0; r < rows.count; r++) {
                if (rows.label[r] == label && rows.isPlaced(r) && rows.part[r] != outer) {
                    order[length] = r;
                    length++;
                }
            }
        }

        private void gatherGroups() {
            length = 0;
            for (int g = 0; g < GROUPS; g++) {
                if (rows.firstOfGroup(g) != NONE) {
                    order[length] = g;
                    length++;
                }
            }
        }

        private void fillByQuotas() {
            weights.apportion(length);
            int at = 0;
            for (int p = 0; p < weights.count; p++) {
                int end = at + weights.quotas[p];
                for (; at < end && at < length; at++) {
                    planned[order[at]] = p;
                }
            }
        }

        private int dealFrom(int first) {
            draws.shuffle(order, length);
            int next = first;
            for (int i = 0; i < length; i++) {
                planned[order[i]] = next;
                next = next + 1 < weights.count ? next + 1 : 0;
            }
            return next;
        }

        private int neediestPart() {
            int best = 0;
            for (int p = 1; p < weights.count; p++) {
                if (need(p) > need(best)) {
                    best = p;
                }
            }
            return best;
        }

        private int need(int part) {
            return weights.weight[part] * rows.count - weights.sum * held[part];
        }

        private void placeGroup(int group, int part) {
            for (int r = 0; r < rows.count; r++) {
                if (rows.group[r] == group) {
                    planned[r] = part;
                    held[part]++;
                }
            }
        }

        // By insertion: it keeps rows of like times in the order of their numbers.
        private void sortByTime() {
            for (int i = 1; i < length; i++) {
                int row = order[i];
                int at = i;
                for (; at > 0 && rows.time[order[at - 1]] > rows.time[row]; at--) {
                    order[at] = order[at - 1];
                }
                order[at] = row;
            }
        }

        private void joinLikeTimes() {
            for (int i = 1; i < length; i++) {
                if (rows.time[order[i]] == rows.time[order[i - 1]]) {
                    planned[order[i]] = planned[order[i - 1]];
                }
            }
        }

        // Kept apart from the going out: rows that go out still hold later parts off.
        private void findLatest() {
            for (int p = 0; p < PARTS; p++) {
                latest[p] = NONE;
            }
            for (int r = 0; r < rows.count; r++) {
                int p = planned[r];
                if (isWithin(p, PARTS) && rows.time[r] > latest[p]) {
                    latest[p] = rows.time[r];
                }
            }
        }

        private boolean isInGap(int row, int gap) {
            for (int p = 0; p < planned[row]; p++) {
                if (latest[p] != NONE && rows.time[row] < latest[p] + gap) {
                    return true;
                }
            }
            return false;
        }
    }

    /** The steps, with the rows that they were fitted with. */
    private static final class Steps {
        final int[] goesBy;
        private final int[] size;
        private final boolean[] fitted;

        Steps() {
            goesBy = new int[STEPS];
            for (int s = 0; s < STEPS; s++) {
                goesBy[s] = NONE;
            }
            size = new int[STEPS];
            fitted = new boolean[STEPS * ROWS];
        }

        boolean isFittedItself(int step, int row) {
            return fitted[step * ROWS + row];
        }

        int addRow(int step, int row) {
            fitted[step * ROWS + row] = true;
            size[step]++;
            return size[step];
        }

        boolean isFitted(int step, int row) {
            int s = step;
            for (int i = 0; i < STEPS && s != NONE; i++) {
                if (isFittedItself(s, row)) {
                    return true;
                }
                s = goesBy[s];
            }
            return false;
        }
    }

    /** Walks the leaks of a kind in order; it keeps only the wanted one, as all would need much room. */
    private static final class Finder {
        private final Rows rows;
        private final Steps steps;
        private int wanted;
        private int found;
        int first;
        int second;

        Finder(Rows itsRows, Steps itsSteps) {
            rows = itsRows;
            steps = itsSteps;
            wanted = NONE;
            found = 0;
            first = NONE;
            second = NONE;
        }

        int search(int kind, int nearness, int which) {
            wanted = which;
            found = 0;
            switch (kind) {
                case EQUAL:
                case NEAR:
                    findPairs(kind, nearness);
                    break;
                case PARTED:
                    findGroups();
                    break;
                case LATE:
                    findLate();
                    break;
                case TELLING:
                    findTelling();
                    break;
                default:
                    findFitted();
                    break;
            }
            return found;
        }

        private void take(int itsFirst, int itsSecond) {
            if (found == wanted) {
                first = itsFirst;
                second = itsSecond;
            }
            found++;
        }

        private void findPairs(int kind, int nearness) {
            for (int a = 0; a < rows.count; a++) {
                for (int b = a + 1; b < rows.count; b++) {
                    if (rows.areParted(a, b)
                            && (kind == EQUAL ? rows.areAlike(a, b) : areNear(a, b, nearness))) {
                        take(a, b);
                    }
                }
            }
        }

        private boolean areNear(int a, int b, int nearness) {
            long one = rows.words[a];
            long other = rows.words[b];
            if (one == 0 || other == 0 || rows.areAlike(a, b)) {
                return false;
            }
            return Long.bitCount(one & other) * 100 >= nearness * Long.bitCount(one | other);
        }

        private void findGroups() {
            for (int g = 0; g < GROUPS; g++) {
                int spread = rows.countPartsOfGroup(g);
                if (spread >= 2) {
                    take(g, spread);
                }
            }
        }

        private void findLate() {
            int earliest = earliestOutsideFirstPart();
            if (earliest == NONE) {
                return;
            }
            for (int r = 0; r < rows.count; r++) {
                if (rows.part[r] == 0 && rows.time[r] >= rows.time[earliest]) {
                    take(r, earliest);
                }
            }
        }

        private int earliestOutsideFirstPart() {
            int earliest = NONE;
            for (int r = 0; r < rows.count; r++) {
                if (rows.part[r] > 0 && (earliest == NONE || rows.time[r] < rows.time[earliest])) {
                    earliest = r;
                }
            }
            return earliest;
        }

        private void findTelling() {
            for (int c = 0; c < COLUMNS; c++) {
                if (tellsLabel(c)) {
                    take(c, countNumbers(c));
                }
            }
        }

        // Two repeated numbers with unlike labels are two numbers, as none has two labels here.
        private boolean tellsLabel(int column) {
            int label = NONE;
            boolean unlike = false;
            for (int a = 0; a < rows.count; a++) {
                if (rows.isPlaced(a)) {
                    if (standsWithOtherLabel(a, column)) {
                        return false;
                    }
                    if (standsAgainBehind(a, column)) {
                        unlike = unlike || label != NONE && label != rows.label[a];
                        label = rows.label[a];
                    }
                }
            }
            return unlike;
        }

        private boolean standsWithOtherLabel(int a, int column) {
            for (int b = a + 1; b < rows.count; b++) {
                if (rows.isPlaced(b) && rows.haveSameNumber(a, b, column) && rows.label[a] != rows.label[b]) {
                    return true;
                }
            }
            return false;
        }

        private boolean standsAgainBehind(int a, int column) {
            for (int b = a + 1; b < rows.count; b++) {
                if (rows.isPlaced(b) && rows.haveSameNumber(a, b, column)) {
                    return true;
                }
            }
            return false;
        }

        private int countNumbers(int column) {
            int numbers = 0;
            for (int a = 0; a < rows.count; a++) {
                // Each number is counted at the last row that it stands in.
                if (rows.isPlaced(a) && !standsAgainBehind(a, column)) {
                    numbers++;
                }
            }
            return numbers;
        }

        private void findFitted() {
            for (int s = 0; s < STEPS; s++) {
                for (int r = 0; r < rows.count; r++) {
                    if (rows.part[r] > 0 && steps.isFitted(s, r)) {
                        take(s, r);
                    }
                }
            }
        }
    }
}
