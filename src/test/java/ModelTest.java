import java.math.BigInteger;
import java.util.ArrayList;
import java.util.Arrays;
import java.util.Collections;
import java.util.Comparator;
import java.util.HashMap;
import java.util.HashSet;
import java.util.List;
import java.util.Map;
import java.util.Objects;
import java.util.Random;
import java.util.Set;
import java.util.TreeMap;
import java.util.TreeSet;
import java.util.stream.Collectors;
import java.util.stream.IntStream;

/** Random runs of calls, each answer held against a model that says the document's words with collections. */
public final class ModelTest {
    private static final int NONE = -1, BAD = -2, FULL = -3, STATE = -4;
    private static final int RUNS = 1000, CALLS = 512;

    // ---- the model

    private static final class Row {
        int number, group, label, time, part = NONE;
        List<Long> columns = new ArrayList<>(List.of(0L, 0L, 0L));
        Set<Integer> words = new TreeSet<>();

        boolean alike(Row other) {
            return columns.equals(other.columns) && words.equals(other.words);
        }

        int digest() {
            BigInteger h = BigInteger.valueOf(7), k = BigInteger.valueOf(31), set = BigInteger.ZERO;
            for (int w : words) {
                set = set.setBit(w);
            }
            for (long v : columns) {
                h = h.multiply(k).add(BigInteger.valueOf(v));
            }
            return h.multiply(k).add(set).mod(BigInteger.valueOf(64)).intValue();
        }
    }

    private static final class Model {
        final List<Row> rows = new ArrayList<>();
        List<Integer> weights = List.of(1);
        int nearness = 50;
        final Map<Integer, Set<Integer>> fits = new TreeMap<>();
        final Map<Integer, Integer> bases = new HashMap<>();

        static boolean in(long x, long from, long to) {
            return from <= x && x <= to;
        }

        boolean isRow(int row) {
            return in(row, 0, rows.size() - 1);
        }

        int w() {
            return weights.stream().mapToInt(x -> x).sum();
        }

        int row(int group, int label, int time) {
            if (!in(group, 0, 29) || !in(label, 0, 4) || !in(time, 0, 100000)) return BAD;
            if (rows.size() == 100) return FULL;
            Row r = new Row();
            r.number = rows.size();
            r.group = group;
            r.label = label;
            r.time = time;
            rows.add(r);
            return r.number;
        }

        int column(int row, int column, long v) {
            if (!isRow(row) || !in(column, 0, 2)) return BAD;
            rows.get(row).columns.set(column, v);
            return 1;
        }

        int word(int row, int word, boolean comes) {
            if (!isRow(row) || !in(word, 0, 63)) return BAD;
            Set<Integer> words = rows.get(row).words;
            if (comes) words.add(word); else words.remove(word);
            return words.size();
        }

        int parts(int k, int... told) {
            if (!in(k, 1, 4)) return BAD;
            List<Integer> list = Arrays.stream(told).limit(k).boxed().collect(Collectors.toList());
            if (list.stream().anyMatch(x -> !in(x, 0, 1000)) || list.stream().allMatch(x -> x == 0)) return BAD;
            weights = list;
            return w();
        }

        List<Integer> quotas(int n) {
            List<Integer> byRest = IntStream.range(0, weights.size()).boxed().collect(Collectors.toList());
            byRest.sort(Comparator.comparing((Integer p) -> -((long) n * weights.get(p) % w())).thenComparing(p -> p));
            List<Integer> quotas = new ArrayList<>();
            for (int weight : weights) {
                quotas.add((int) ((long) n * weight / w()));
            }
            int missing = n - quotas.stream().mapToInt(x -> x).sum();
            for (int p : byRest.subList(0, missing)) {
                quotas.set(p, quotas.get(p) + 1);
            }
            return quotas;
        }

        int quota(int part, int n) {
            if (!in(part, 0, weights.size() - 1) || !in(n, 0, 100000)) return BAD;
            return quotas(n).get(part);
        }

        List<Row> withLabel(int label) {
            return rows.stream().filter(r -> r.label == label).collect(Collectors.toList());
        }

        void byQuotas(List<Row> order, Map<Row, Integer> put) {
            List<Integer> quotas = quotas(order.size());
            List<Integer> places = new ArrayList<>();
            for (int p = 0; p < quotas.size(); p++) {
                places.addAll(Collections.nCopies(quotas.get(p), p));
            }
            for (int i = 0; i < order.size(); i++) {
                put.put(order.get(i), places.get(i));
            }
        }

        Map<Row, Integer> planned(int kind, long seed, int gap) {
            Map<Row, Integer> put = new HashMap<>();
            Seed z = new Seed(seed);
            if (kind == 0) byQuotas(z.shuffled(rows), put);
            if (kind == 1) byGroups(z, put);
            if (kind == 2) byTimes(gap, put);
            if (kind == 3) {
                for (int l = 0; l < 5; l++) {
                    byQuotas(z.shuffled(withLabel(l)), put);
                }
            }
            return put;
        }

        void byGroups(Seed z, Map<Row, Integer> put) {
            List<Integer> groups = new ArrayList<>(rows.stream().map(r -> r.group).collect(Collectors.toCollection(TreeSet::new)));
            for (int g : z.shuffled(groups)) {
                int best = 0;
                long most = Long.MIN_VALUE;
                for (int p = 0; p < weights.size(); p++) {
                    long need = (long) weights.get(p) * rows.size() - (long) w() * Collections.frequency(put.values(), p);
                    if (need > most) {
                        most = need;
                        best = p;
                    }
                }
                for (Row r : rows) {
                    if (r.group == g) put.put(r, best);
                }
            }
        }

        void byTimes(int gap, Map<Row, Integer> put) {
            List<Row> order = new ArrayList<>(rows);
            order.sort(Comparator.comparing((Row r) -> r.time).thenComparing(r -> r.number));
            byQuotas(order, put);
            Row before = null;
            for (Row r : order) {
                if (before != null && before.time == r.time) put.put(r, put.get(before));
                before = r;
            }
            Map<Row, Integer> as = new HashMap<>(put);
            for (Row late : rows) {
                for (Row early : rows) {
                    if (as.get(early) < as.get(late) && late.time < gap + early.time) put.put(late, NONE);
                }
            }
        }

        int placed() {
            return (int) rows.stream().filter(r -> r.part != NONE).count();
        }

        int split(int kind, long seed, int gap) {
            if (!in(kind, 0, 3) || !in(gap, 0, 100000)) return BAD;
            planned(kind, seed, gap).forEach((r, p) -> r.part = p);
            return placed();
        }

        void deal(List<Row> which, int k, Seed z) {
            int dealt = 0;
            for (int l = 0; l < 5; l++) {
                int label = l;
                for (Row r : z.shuffled(which.stream().filter(x -> x.label == label).collect(Collectors.toList()))) {
                    r.part = dealt++ % k;
                }
            }
            weights = Collections.nCopies(k, 1);
        }

        int folds(int many, long seed) {
            if (!in(many, 2, 4)) return BAD;
            deal(rows, many, new Seed(seed));
            return (int) IntStream.range(0, 5).filter(l -> in(withLabel(l).size(), 1, many - 1)).count();
        }

        int nested(int part, int many, long seed) {
            if (!in(part, 0, 3) || !in(many, 2, 4)) return BAD;
            if (rows.stream().noneMatch(r -> r.part == part)) return STATE;
            List<Row> inside = rows.stream().filter(r -> r.part != part && r.part != NONE).collect(Collectors.toList());
            rows.forEach(r -> r.part = NONE);
            deal(inside, many, new Seed(BigInteger.valueOf(seed).add(BigInteger.valueOf(part))));
            return placed();
        }

        int of(int row) {
            return isRow(row) ? rows.get(row).part : BAD;
        }

        int many(int part, int label) {
            if (!in(part, 0, 3) || !in(label, -1, 4)) return BAD;
            return (int) rows.stream().filter(r -> r.part == part && (label == NONE || r.label == label)).count();
        }

        Object share(int label, int part, int side) {
            if (!in(label, 0, 4) || !in(part, 0, 3)) return "IndexOutOfBoundsException";
            if (!in(side, 0, 1)) return "IllegalArgumentException";
            long below = withLabel(label).stream().filter(r -> r.part != NONE).count();
            if (below == 0) return "ArithmeticException";
            long above = many(part, label);
            long divisor = BigInteger.valueOf(above).gcd(BigInteger.valueOf(below)).longValue();
            return (int) ((side == 0 ? above : below) / divisor);
        }

        int over(int group) {
            if (!in(group, 0, 29)) return BAD;
            List<Row> its = rows.stream().filter(r -> r.group == group).collect(Collectors.toList());
            if (its.isEmpty() || !in(its.get(0).part, 0, weights.size() - 1)) return 0;
            return Math.max(0, its.size() - quotas(rows.size()).get(its.get(0).part));
        }

        int near(int percent) {
            if (!in(percent, 1, 100)) return BAD;
            int before = nearness;
            nearness = percent;
            return before;
        }

        int fit(int step, int row) {
            if (!in(step, 0, 7) || !isRow(row)) return BAD;
            Set<Integer> its = fits.computeIfAbsent(step, s -> new TreeSet<>());
            return its.add(row) ? its.size() : STATE;
        }

        int base(int step, int by) {
            if (!in(step, 0, 7) || !in(by, -1, step - 1)) return BAD;
            Integer before = bases.put(step, by);
            return before == null ? NONE : before;
        }

        Set<Integer> fittedWith(int step) {
            Set<Integer> all = new TreeSet<>(fits.getOrDefault(step, Set.of()));
            int by = bases.getOrDefault(step, NONE);
            if (by != NONE) all.addAll(fittedWith(by));
            return all;
        }

        List<List<Integer>> found(int kind) {
            List<Row> in = rows.stream().filter(r -> r.part != NONE).collect(Collectors.toList());
            List<List<Integer>> list = new ArrayList<>();
            if (kind == 0 || kind == 1) pairs(kind, in, list);
            if (kind == 2) {
                for (int g = 0; g < 30; g++) {
                    int group = g;
                    int spread = (int) in.stream().filter(r -> r.group == group).map(r -> r.part).distinct().count();
                    if (spread > 1) list.add(List.of(g, spread));
                }
            }
            if (kind == 3) {
                Row first = in.stream().filter(r -> r.part != 0)
                        .min(Comparator.comparing((Row r) -> r.time).thenComparing(r -> r.number)).orElse(null);
                for (Row r : in) {
                    if (first != null && r.part == 0 && r.time >= first.time) list.add(List.of(r.number, first.number));
                }
            }
            if (kind == 4) telling(in, list);
            if (kind == 5) {
                for (int s = 0; s < 8; s++) {
                    for (int r : fittedWith(s)) {
                        if (rows.get(r).part > 0) list.add(List.of(s, r));
                    }
                }
            }
            return list;
        }

        void pairs(int kind, List<Row> in, List<List<Integer>> list) {
            for (Row a : in) {
                for (Row b : in) {
                    if (a.number >= b.number || a.part == b.part) continue;
                    Set<Integer> both = new HashSet<>(a.words), any = new HashSet<>(a.words);
                    both.retainAll(b.words);
                    any.addAll(b.words);
                    boolean near = !a.words.isEmpty() && !b.words.isEmpty() && !a.alike(b)
                            && both.size() * 100 >= nearness * any.size();
                    if (kind == 0 ? a.alike(b) : near) list.add(List.of(a.number, b.number));
                }
            }
        }

        void telling(List<Row> in, List<List<Integer>> list) {
            for (int c = 0; c < 3; c++) {
                int column = c;
                Map<Long, List<Integer>> labels = in.stream().collect(Collectors.groupingBy(
                        r -> r.columns.get(column), Collectors.mapping(r -> r.label, Collectors.toList())));
                boolean clean = labels.values().stream().allMatch(l -> new HashSet<>(l).size() == 1);
                List<Integer> often = labels.values().stream().filter(l -> l.size() > 1).map(l -> l.get(0)).collect(Collectors.toList());
                if (clean && often.size() > 1 && new HashSet<>(often).size() > 1) list.add(List.of(c, labels.size()));
            }
        }

        int leaks(int kind) {
            return in(kind, 0, 5) ? found(kind).size() : BAD;
        }

        int leak(int kind, int i, int what) {
            if (!in(kind, 0, 5) || !in(what, 0, 1) || !in(i, 0, found(kind).size() - 1)) return BAD;
            return found(kind).get(i).get(what);
        }

        int meets() {
            int pairs = 0;
            for (Row a : rows) {
                for (Row b : rows) {
                    if (a.number < b.number && a.part != NONE && b.part != NONE && a.digest() == b.digest() && !a.alike(b)) pairs++;
                }
            }
            return pairs;
        }

        boolean same(int kind, long seed, int gap) {
            if (!in(kind, 0, 3) || !in(gap, 0, 100000)) return false;
            return planned(kind, seed, gap).entrySet().stream().allMatch(e -> e.getKey().part == e.getValue());
        }

        int told(int what) {
            int[] all = {rows.size(), weights.size(), w(), placed(), nearness};
            return in(what, 0, 4) ? all[what] : BAD;
        }
    }

    // ---- the runs

    private static final String[] NAMES = {"row", "column", "word", "parts", "quota", "split", "folds", "nested", "of",
        "many", "share", "over", "near", "fit", "base", "leaks", "leak", "meets", "same", "told"};
    private static final Map<String, Integer> good = new TreeMap<>(), refused = new TreeMap<>();
    private static int wrong = 0;

    private final Random random;
    private final int odd, width, firstRows;

    private ModelTest(long seed) {
        random = new Random(seed);
        odd = random.nextInt(3) == 0 ? 0 : 12;
        width = 1 + random.nextInt(6);
        firstRows = new int[] {0, 3, 10, 25, 60, 100}[random.nextInt(6)];
    }

    /** A number from .. to, or now and then one that is beside it. */
    private int pick(int from, int to) {
        if (odd > 0 && random.nextInt(odd * 3) == 0) {
            int[] others = {from - 1, to + 1, Integer.MIN_VALUE, Integer.MAX_VALUE, -2, from - 7, to + 1000};
            return others[random.nextInt(others.length)];
        }
        return random.nextInt(5) == 0 ? (random.nextBoolean() ? from : to) : from + random.nextInt(to - from + 1);
    }

    private int few(int from, int to) {
        return random.nextInt(4) == 0 ? pick(from, to) : pick(from, Math.min(to, from + width));
    }

    private int aRow(Model m) {
        return pick(0, Math.max(0, m.rows.size() - 1));
    }

    private long aLong() {
        long[] some = {0, 1, -1, Long.MIN_VALUE, Long.MAX_VALUE, random.nextLong()};
        return random.nextBoolean() ? random.nextInt(3) : some[random.nextInt(some.length)];
    }

    private int[] arguments(String name, Model m) {
        switch (name) {
            case "row": return new int[] {few(0, 29), few(0, 4), few(0, 100000)};
            case "column": return new int[] {aRow(m), pick(0, 2)};
            case "word": return new int[] {aRow(m), few(0, 63), random.nextInt(4) == 0 ? 0 : 1};
            case "parts": return new int[] {pick(1, 4), few(0, 1000), few(0, 1000), few(0, 1000), few(0, 1000)};
            case "quota": return new int[] {pick(0, m.weights.size() - 1), few(0, 100000)};
            case "split": case "same": return new int[] {pick(0, 3), few(0, 100000)};
            case "folds": return new int[] {pick(2, 4)};
            case "nested": return new int[] {pick(0, 3), pick(2, 4)};
            case "of": return new int[] {aRow(m)};
            case "many": return new int[] {pick(0, 3), pick(-1, 4)};
            case "share": return new int[] {few(0, 4), pick(0, 3), pick(0, 1)};
            case "over": return new int[] {few(0, 29)};
            case "near": return new int[] {pick(1, 100)};
            case "fit": return new int[] {pick(0, 7), aRow(m)};
            case "base": { int step = pick(0, 7); return new int[] {step, pick(-1, Math.max(-1, Math.min(6, step - 1)))}; }
            case "leaks": return new int[] {pick(0, 5)};
            case "leak": { int kind = pick(0, 5); return new int[] {kind, pick(0, Math.max(0, m.leaks(kind) - 1)), pick(0, 1)}; }
            case "told": return new int[] {pick(0, 4)};
            default: return new int[0];
        }
    }

    private static Object asked(SplitLeaks x, String name, int[] a, long v) {
        try {
            switch (name) {
                case "row": return x.row(a[0], a[1], a[2]);
                case "column": return x.column(a[0], a[1], v);
                case "word": return x.word(a[0], a[1], a[2] == 1);
                case "parts": return x.parts(a[0], a[1], a[2], a[3], a[4]);
                case "quota": return x.quota(a[0], a[1]);
                case "split": return x.split(a[0], v, a[1]);
                case "folds": return x.folds(a[0], v);
                case "nested": return x.nested(a[0], a[1], v);
                case "of": return x.of(a[0]);
                case "many": return x.many(a[0], a[1]);
                case "share": return x.share(a[0], a[1], a[2]);
                case "over": return x.over(a[0]);
                case "near": return x.near(a[0]);
                case "fit": return x.fit(a[0], a[1]);
                case "base": return x.base(a[0], a[1]);
                case "leaks": return x.leaks(a[0]);
                case "leak": return x.leak(a[0], a[1], a[2]);
                case "meets": return x.meets();
                case "same": return x.same(a[0], v, a[1]);
                default: return x.told(a[0]);
            }
        } catch (RuntimeException e) {
            return e.getClass().getSimpleName();
        }
    }

    private static Object due(Model m, String name, int[] a, long v) {
        switch (name) {
            case "row": return m.row(a[0], a[1], a[2]);
            case "column": return m.column(a[0], a[1], v);
            case "word": return m.word(a[0], a[1], a[2] == 1);
            case "parts": return m.parts(a[0], a[1], a[2], a[3], a[4]);
            case "quota": return m.quota(a[0], a[1]);
            case "split": return m.split(a[0], v, a[1]);
            case "folds": return m.folds(a[0], v);
            case "nested": return m.nested(a[0], a[1], v);
            case "of": return m.of(a[0]);
            case "many": return m.many(a[0], a[1]);
            case "share": return m.share(a[0], a[1], a[2]);
            case "over": return m.over(a[0]);
            case "near": return m.near(a[0]);
            case "fit": return m.fit(a[0], a[1]);
            case "base": return m.base(a[0], a[1]);
            case "leaks": return m.leaks(a[0]);
            case "leak": return m.leak(a[0], a[1], a[2]);
            case "meets": return m.meets();
            case "same": return m.same(a[0], v, a[1]);
            default: return m.told(a[0]);
        }
    }

    private String next(Model m, int call) {
        if (call < firstRows) return "row";
        if (call < firstRows * 2) return random.nextBoolean() ? "word" : "column";
        String name = NAMES[random.nextInt(NAMES.length)];
        // Nesting empties the parts fast and a new row is out, so both come less often than the rest.
        return (name.equals("nested") || name.equals("row")) && random.nextInt(3) > 0 ? "split" : name;
    }

    private boolean holds(int run) {
        SplitLeaks x = new SplitLeaks();
        Model m = new Model();
        for (int call = 0; call < CALLS; call++) {
            String name = next(m, call);
            int[] a = arguments(name, m);
            long v = aLong();
            Object want = due(m, name, a, v);
            Object got = asked(x, name, a, v);
            boolean isRefusal = want instanceof String || want instanceof Integer && (Integer) want < NONE;
            (isRefusal ? refused : good).merge(name, 1, Integer::sum);
            if (!Objects.equals(got, want)) {
                System.out.println("run " + run + ", call " + call + ": " + name + Arrays.toString(a) + " with " + v
                        + " answered " + got + ", due is " + want);
                return false;
            }
        }
        return true;
    }

    public static void main(String[] args) {
        for (int run = 0; run < RUNS && wrong < 5; run++) {
            if (!new ModelTest(run).holds(run)) wrong++;
        }
        for (String name : NAMES) {
            if (good.getOrDefault(name, 0) < 1000 || !name.equals("meets") && !name.equals("same") && refused.getOrDefault(name, 0) < 100) {
                if (wrong == 0) System.out.println(name + " was hardly tried");
                wrong++;
            }
        }
        System.out.println(wrong == 0 ? RUNS + " runs are as the model's" : "runs are not as the model's");
        if (wrong != 0) System.exit(1);
    }
}
