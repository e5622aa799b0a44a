import java.math.BigInteger;
import java.util.ArrayList;
import java.util.Arrays;
import java.util.Collections;
import java.util.HashMap;
import java.util.List;
import java.util.Map;
import java.util.Random;
import java.util.TreeMap;

/** Runs of arbitrary calls, each answer compared with a second reading of the document, held in maps. */
public final class ModelTest {
    private static final int RUNS = 600;
    private static final int CALLS = 512;
    private static final int[] EDGES = {Integer.MIN_VALUE, -102, -101, -2, -1, 5, 6, 8, 9, 10, 21, 40, Integer.MAX_VALUE};

    public static void main(String[] args) {
        Check check = new Check();
        Map<String, Integer> seen = new TreeMap<>();
        for (int run = 0; run < RUNS && check.sound(); run++) {
            compareRun(check, run, seen);
        }
        for (String outcome : List.of("says throws.ArithmeticException", "says throws.ArrayIndexOutOfBoundsException",
                "says throws.IllegalArgumentException", "agree throws.ArithmeticException", "all throws.ArithmeticException",
                "row -104", "rule -104", "learn 4", "next -1", "decided -1")) {
            if (!seen.containsKey(outcome)) {
                check.fail("no run met: " + outcome);
            }
        }
        check.end();
    }

    private static void compareRun(Check check, int run, Map<String, Integer> seen) {
        Dice dice = new Dice(run);
        LabelPeople real = new LabelPeople();
        Model model = new Model();
        for (int k = 0; k < CALLS && check.sound(); k++) {
            String name = dice.name(k);
            int[] a = dice.arguments(name);
            String got = Check.outcome(() -> callReal(real, name, a));
            check.dueText("run " + run + " call " + k + ": " + name + Arrays.toString(a), got,
                    Check.outcome(() -> model.call(name, a)));
            seen.merge(name + " " + got, 1, Integer::sum);
        }
    }

    private static long callReal(LabelPeople x, String name, int[] a) {
        switch (name) {
            case "row": return x.row(a[0], a[1], a[2], a[3]);
            case "label": return x.label(a[0], a[1], a[2]);
            case "said": return x.said(a[0], a[1]);
            case "gold": return x.gold(a[0], a[1]);
            case "bound": return x.bound(a[0]);
            case "expert": return x.expert(a[0], a[1] == 1);
            case "person": return x.person(a[0], a[1]);
            case "rule": return x.rule(a[0], a[1], a[2], a[3]);
            case "turn": return x.turn(a[0], a[1] == 1);
            case "table": return x.table(a[0], a[1]);
            case "says": return x.says(a[0], a[1]);
            case "abstains": return x.abstains(a[0]);
            case "votes": return x.votes(a[0], a[1]);
            case "decided": return x.decided(a[0]);
            case "learn": return x.learn(a[0]);
            case "agree": return x.agree(a[0], a[1], a[2]);
            case "all": return x.all(a[0]);
            case "next": return x.next(a[0]);
            case "about": return x.about(a[0]);
            default: throw new IllegalStateException(name);
        }
    }

    /** Arbitrary calls, the same ones for the same seed: mostly sound, now and then an edge. */
    private static final class Dice {
        private static final String[] NAMES = {"row", "label", "label", "label", "label", "label", "label", "said",
            "gold", "bound", "expert", "person", "person", "rule", "turn", "table", "says", "abstains", "votes",
            "decided", "decided", "learn", "agree", "agree", "all", "next", "next", "about", "about"};
        private final Random random;
        private final int rows;
        private final int firstRows;
        private final int persons;
        private final int labels;

        Dice(int seed) {
            random = new Random(seed);
            rows = 1 + random.nextInt(45);
            firstRows = random.nextInt(rows);
            persons = 2 + random.nextInt(7);
            labels = 1 + random.nextInt(5);
        }

        String name(int k) {
            return k < firstRows ? "row" : NAMES[random.nextInt(NAMES.length)];
        }

        int[] arguments(String name) {
            switch (name) {
                case "row": return new int[] {any(), any(), any(), any()};
                case "label": return new int[] {upTo(persons), upTo(rows), upTo(labels)};
                case "said": return new int[] {upTo(persons), upTo(rows)};
                case "gold": return new int[] {upTo(rows), upTo(labels + 2) - 2 + random.nextInt(2)};
                case "bound": return new int[] {1 + upTo(9)};
                case "expert": return new int[] {upTo(persons), random.nextInt(2)};
                case "person": return new int[] {upTo(persons), upTo(4)};
                case "rule": return new int[] {upTo(4), upTo(4), upTo(4), any()};
                case "turn": return new int[] {upTo(6), random.nextInt(2)};
                case "table": return new int[] {upTo(8), any()};
                case "says": return new int[] {upTo(6), upTo(rows)};
                case "votes": return new int[] {upTo(rows), upTo(5)};
                case "abstains": return new int[] {upTo(6)};
                case "decided": return new int[] {upTo(rows)};
                case "learn": return new int[] {1 + upTo(20)};
                case "agree": return new int[] {upTo(persons), upTo(persons), upTo(4)};
                case "all": return new int[] {upTo(4)};
                case "next": return new int[] {upTo(persons)};
                default: return new int[] {upTo(8)};
            }
        }

        private int upTo(int end) {
            return random.nextInt(40) == 0 ? EDGES[random.nextInt(EDGES.length)] : random.nextInt(end);
        }

        private int any() {
            int kind = random.nextInt(10);
            return kind == 0 ? EDGES[random.nextInt(EDGES.length)] : kind == 1 ? random.nextInt() : random.nextInt(13) - 4;
        }
    }

    /** The document read a second time: nothing is kept but what was told, all is counted when asked. */
    private static final class Model {
        private final List<int[]> rows = new ArrayList<>();
        private final List<int[]> rules = new ArrayList<>();
        private final Map<Integer, Boolean> off = new HashMap<>();
        private final Map<Integer, Boolean> experts = new HashMap<>();
        private final Map<Integer, Integer> table = new HashMap<>();
        private final Map<Integer, Integer> golden = new HashMap<>();
        private final Map<List<Integer>, Integer> words = new HashMap<>();
        private Map<Integer, Integer> trust = new HashMap<>();
        private int bound = 3;

        long call(String name, int[] a) {
            switch (name) {
                case "row": return row(a);
                case "label": return label(a[0], a[1], a[2]);
                case "said": return isPerson(a[0]) && isRow(a[1]) ? word(a[0], a[1]) : -101;
                case "gold": return gold(a[0], a[1]);
                case "bound": return bound(a[0]);
                case "expert": return !isPerson(a[0]) ? -101 : put(experts, a[0], a[1] == 1);
                case "person": return !isPerson(a[0]) ? -101 : person(a[0], a[1]);
                case "rule": return rule(a);
                case "turn": return !isRule(a[0]) ? -101 : put(off, a[0], a[1] != 1);
                case "table": return table(a[0], a[1]);
                case "says": return says(a[0], a[1]);
                case "abstains": return !isRule(a[0]) ? -101 : abstains(a[0]);
                case "votes": return !isRow(a[0]) ? -101 : a[1] < 0 || a[1] > 4 ? -102 : votes(a[0], a[1]);
                case "decided": return !isRow(a[0]) ? -101 : decided(a[0]);
                case "learn": return a[0] < 1 || a[0] > 20 ? -102 : learn(a[0]);
                case "agree": return agree(a[0], a[1], a[2]);
                case "all": return all(a[0]);
                case "next": return !isPerson(a[0]) ? -101 : next(a[0]);
                case "about": return about(a[0]);
                default: throw new IllegalStateException(name);
            }
        }

        private boolean isPerson(int p) {
            return 0 <= p && p <= 7;
        }

        private boolean isRow(int r) {
            return 0 <= r && r < rows.size();
        }

        private boolean isRule(int r) {
            return 0 <= r && r < rules.size();
        }

        private int word(int p, int r) {
            return words.getOrDefault(List.of(p, r), -1);
        }

        private boolean barred(int p) {
            return wrong(p) >= bound;
        }

        private int wrong(int p) {
            int count = 0;
            for (Map.Entry<Integer, Integer> g : golden.entrySet()) {
                int w = word(p, g.getKey());
                count += w >= 0 && w != g.getValue() ? 1 : 0;
            }
            return count;
        }

        private static int put(Map<Integer, Boolean> map, int key, boolean is) {
            Boolean was = map.put(key, is);
            return (was != null && was) == is ? 0 : 1;
        }

        private long row(int[] features) {
            if (rows.size() == 40) {
                return -104;
            }
            rows.add(features);
            return rows.size() - 1;
        }

        private long label(int p, int r, int l) {
            if (!isPerson(p) || !isRow(r)) {
                return -101;
            }
            if (l < 0 || l > 4) {
                return -102;
            }
            return words.putIfAbsent(List.of(p, r), l) == null ? 1 : 0;
        }

        private long gold(int r, int l) {
            if (!isRow(r)) {
                return -101;
            }
            if (l < -1 || l > 4) {
                return -102;
            }
            Integer was = l == -1 ? golden.remove(r) : golden.put(r, l);
            return was == null ? -1 : was;
        }

        private long bound(int n) {
            if (n < 1 || n > 9) {
                return -102;
            }
            int was = bound;
            bound = n;
            return was;
        }

        private long person(int p, int what) {
            long labelled = words.keySet().stream().filter(k -> k.get(0) == p).count();
            return what == 0 ? trust.getOrDefault(p, 10) : what == 1 ? wrong(p) : what == 2 ? (barred(p) ? 1 : 0)
                    : what == 3 ? labelled : -102;
        }

        private long rule(int[] parts) {
            for (int k = 0; k < 3; k++) {
                if (parts[k] < 0 || parts[k] > 3) {
                    return -102;
                }
            }
            if (rules.size() == 6) {
                return -104;
            }
            rules.add(parts);
            return rules.size() - 1;
        }

        private long table(int place, int v) {
            if (place < 0 || place > 7) {
                return -102;
            }
            Integer was = table.put(place, v);
            return was == null ? 0 : was;
        }

        private int says(int rule, int r) {
            if (!isRule(rule) || !isRow(r)) {
                throw new IllegalArgumentException();
            }
            int[] parts = rules.get(rule);
            BigInteger i = BigInteger.valueOf(rows.get(r)[parts[1]]);
            BigInteger j = BigInteger.valueOf(rows.get(r)[parts[2]]);
            if (parts[0] == 3) {
                return i.longValue() < parts[3] ? 0 : 1;
            }
            if (parts[0] == 2) {
                int place = i.add(BigInteger.valueOf(parts[3])).intValue();
                if (place < 0 || place > 7) {
                    throw new ArrayIndexOutOfBoundsException();
                }
                return modulo5(BigInteger.valueOf(table.getOrDefault(place, 0)));
            }
            if (j.signum() == 0) {
                throw new ArithmeticException();
            }
            return modulo5(parts[0] == 0 ? i.divide(j) : i.remainder(j));
        }

        private static int modulo5(BigInteger number) {
            return BigInteger.valueOf(number.intValue()).mod(BigInteger.valueOf(5)).intValue();
        }

        private int saysOrNone(int rule, int r) {
            String outcome = Check.outcome(() -> says(rule, r));
            return outcome.startsWith("throws") ? -1 : Integer.parseInt(outcome);
        }

        private long abstains(int rule) {
            long count = 0;
            for (int r = 0; r < rows.size(); r++) {
                count += saysOrNone(rule, r) == -1 ? 1 : 0;
            }
            return count;
        }

        private List<Integer> wordsOfRules(int r) {
            List<Integer> list = new ArrayList<>();
            for (int rule = 0; rule < rules.size(); rule++) {
                int said = saysOrNone(rule, r);
                if (said >= 0 && !off.getOrDefault(rule, false)) {
                    list.add(said);
                }
            }
            return list;
        }

        private int votes(int r, int l) {
            int sum = Collections.frequency(wordsOfRules(r), l);
            for (int p = 0; p < 8; p++) {
                sum += word(p, r) == l && !barred(p) ? trust.getOrDefault(p, 10) : 0;
            }
            return sum;
        }

        private List<Integer> allVotes(int r) {
            return List.of(votes(r, 0), votes(r, 1), votes(r, 2), votes(r, 3), votes(r, 4));
        }

        private int decided(int r) {
            if (golden.containsKey(r)) {
                return golden.get(r);
            }
            List<Integer> votes = allVotes(r);
            int most = Collections.max(votes);
            if (most > 0 && Collections.frequency(votes, most) == 1) {
                return votes.indexOf(most);
            }
            for (int p = 0; p < 8; p++) {
                if (experts.getOrDefault(p, false) && !barred(p) && word(p, r) >= 0) {
                    return word(p, r);
                }
            }
            return -1;
        }

        private long learn(int n) {
            Map<Integer, Integer> tens = new HashMap<>();
            for (int p = 0; p < 8; p++) {
                tens.put(p, 10);
            }
            trust = tens;
            int rounds = 0;
            boolean changed = true;
            while (rounds < n && changed) {
                Map<Integer, Integer> fresh = round();
                changed = !fresh.equals(trust);
                trust = fresh;
                rounds++;
            }
            return rounds;
        }

        private Map<Integer, Integer> round() {
            int[] n = new int[8];
            int[] h = new int[8];
            for (int r = 0; r < rows.size(); r++) {
                int d = decided(r);
                for (int p = 0; p < 8; p++) {
                    n[p] += d >= 0 && word(p, r) >= 0 ? 1 : 0;
                    h[p] += d >= 0 && word(p, r) == d ? 1 : 0;
                }
            }
            Map<Integer, Integer> fresh = new HashMap<>();
            for (int p = 0; p < 8; p++) {
                fresh.put(p, n[p] == 0 ? 1 : 1 + 9 * h[p] / n[p]);
            }
            return fresh;
        }

        private long agree(int one, int other, int what) {
            if (!isPerson(one) || !isPerson(other) || one == other || what < 0 || what > 3) {
                throw new IllegalArgumentException();
            }
            long n = 0;
            long a = 0;
            long s = 0;
            for (int r = 0; r < rows.size(); r++) {
                boolean both = word(one, r) >= 0 && word(other, r) >= 0;
                n += both ? 1 : 0;
                a += both && word(one, r) == word(other, r) ? 1 : 0;
                for (int q = 0; q < rows.size(); q++) {
                    boolean there = both && word(one, q) >= 0 && word(other, q) >= 0;
                    s += there && word(one, r) == word(other, q) ? 1 : 0;
                }
            }
            return what == 2 ? n : what == 3 ? a : fraction(n * a - s, n * n - s, what);
        }

        private long all(int what) {
            if (what < 0 || what > 3) {
                throw new IllegalArgumentException();
            }
            long count = 0;
            long shares = 0;
            List<Integer> labellings = new ArrayList<>();
            for (int r = 0; r < rows.size(); r++) {
                List<Integer> here = wordsOn(r);
                if (here.size() >= 2) {
                    count++;
                    long ordered = (long) here.size() * (here.size() - 1);
                    shares += 840 * (alikePairs(here) - here.size()) / ordered;
                    labellings.addAll(here);
                }
            }
            long c = labellings.size();
            long s = alikePairs(labellings);
            return what == 2 ? count : what == 3 ? c
                    : fraction(shares * c * c - s * 840 * count, 840 * count * (c * c - s), what);
        }

        private List<Integer> wordsOn(int r) {
            List<Integer> list = new ArrayList<>();
            for (int p = 0; p < 8; p++) {
                if (word(p, r) >= 0) {
                    list.add(word(p, r));
                }
            }
            return list;
        }

        /** Ordered pairs, each with itself, too: the sum of the squares of how often each label is there. */
        private static long alikePairs(List<Integer> list) {
            long count = 0;
            for (int one : list) {
                count += Collections.frequency(list, one);
            }
            return count;
        }

        private static long fraction(long over, long under, int what) {
            if (under == 0) {
                throw new ArithmeticException();
            }
            BigInteger divisor = BigInteger.valueOf(over).gcd(BigInteger.valueOf(under));
            long cut = divisor.longValueExact() * (under < 0 ? -1 : 1);
            return (what == 0 ? over : under) / cut;
        }

        private long next(int p) {
            List<int[]> open = new ArrayList<>();
            for (int r = 0; r < rows.size(); r++) {
                if (word(p, r) == -1 && !golden.containsKey(r) && !barred(p)) {
                    List<Integer> sorted = new ArrayList<>(allVotes(r));
                    sorted.sort(Collections.reverseOrder());
                    open.add(new int[] {sorted.get(0) - sorted.get(1), wordsOn(r).size(), r});
                }
            }
            open.sort(Arrays::compare);
            return open.isEmpty() ? -1 : open.get(0)[2];
        }

        private long about(int what) {
            long decided = 0;
            long disputed = 0;
            long barred = 0;
            for (int r = 0; r < rows.size(); r++) {
                decided += decided(r) >= 0 ? 1 : 0;
                disputed += wordsOfRules(r).stream().distinct().count() > 1 ? 1 : 0;
            }
            for (int p = 0; p < 8; p++) {
                barred += barred(p) ? 1 : 0;
            }
            long[] answers = {rows.size(), words.size(), rules.size(), decided, golden.size(), bound, barred, disputed};
            return what < 0 || what > 7 ? -102 : answers[what];
        }
    }
}
