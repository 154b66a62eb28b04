import java.util.ArrayList;
import java.util.Collection;
import java.util.LinkedHashMap;
import java.util.List;
import java.util.Map;

/**
 * Long runs of calls, the same at every start, each answer compared with one found in another way:
 * the amounts are eliminated from the conditions one after another (Fourier and Motzkin), which
 * leaves the least and the greatest value of the last one.
 */
public final class ReferenceTest {
    private static final int BAD = -10000000;
    private static final int FULL = -20000000;
    private static final int NONE = -30000000;
    private static final int RUNS = 150;
    private static final int CALLS = 512;
    private static final int REPORTS = 20;

    private static int wrong = 0;
    private static long seed = 20261115L;

    // How often an answer was of a kind, so that a run of trivial cases would be noticed.
    private static int withPoint = 0;
    private static int withoutPoint = 0;
    private static int fractions = 0;
    private static int redundants = 0;
    private static int wholesOnlyInFractions = 0;

    public static void main(String[] args) {
        for (int run = 0; run < RUNS; run++) {
            new Run(run).play();
        }
        System.out.println(withPoint + " answers with a point, " + withoutPoint + " without, "
                + fractions + " true fractions, " + redundants + " redundant conditions, "
                + wholesOnlyInFractions + " times points but no whole ones");
        if (withPoint < 1000 || withoutPoint < 1000 || fractions < 1000 || redundants < 100
                || wholesOnlyInFractions < 100) {
            wrong++;
            System.out.println("the runs try too little");
        }
        if (wrong != 0) {
            System.out.println(wrong + " answers are not as due");
            System.exit(1);
        }
        System.out.println("all answers are as due");
    }

    private static int pick(int count) {
        seed = seed * 6364136223846793005L + 1442695040888963407L;
        return (int) ((seed >>> 33) % count);
    }

    /** A fraction in lowest terms, its bottom at least 1. */
    private static final class Fraction {
        final long top;
        final long bottom;

        Fraction(long top, long bottom) {
            long common = gcd(top, bottom) * (bottom < 0 ? -1 : 1);
            this.top = top / common;
            this.bottom = bottom / common;
        }

        boolean isLessThan(Fraction other) {
            return Math.multiplyExact(top, other.bottom) < Math.multiplyExact(other.top, bottom);
        }
    }

    private static long gcd(long a, long b) {
        return b == 0 ? Math.abs(a) : gcd(b, a % b);
    }

    /** f0 * y0 + f1 * y1 + f2 * y2 is at most bound. */
    private static final class AtMost {
        final long[] factors;
        final long bound;

        AtMost(long f0, long f1, long f2, long bound) {
            long common = gcd(gcd(f0, f1), gcd(f2, bound));
            common = common == 0 ? 1 : common;
            this.factors = new long[] {f0 / common, f1 / common, f2 / common};
            this.bound = bound / common;
        }

        AtMost plus(AtMost other, long times, long otherTimes) {
            long[] sum = new long[4];
            for (int i = 0; i < 4; i++) {
                long mine = i < 3 ? factors[i] : bound;
                long its = i < 3 ? other.factors[i] : other.bound;
                sum[i] = Math.addExact(Math.multiplyExact(times, mine),
                        Math.multiplyExact(otherTimes, its));
            }
            return new AtMost(sum[0], sum[1], sum[2], sum[3]);
        }
    }

    /** Of rows with the same factors only the one with the least bound says anything. */
    private static Collection<AtMost> strongest(List<AtMost> rows) {
        Map<List<Long>, AtMost> kept = new LinkedHashMap<>();
        for (AtMost row : rows) {
            List<Long> key = List.of(row.factors[0], row.factors[1], row.factors[2]);
            AtMost before = kept.get(key);
            if (before == null || row.bound < before.bound) {
                kept.put(key, row);
            }
        }
        return kept.values();
    }

    private static List<AtMost> without(List<AtMost> rows, int i) {
        List<AtMost> result = new ArrayList<>();
        Collection<AtMost> kept = strongest(rows);
        for (AtMost row : kept) {
            if (row.factors[i] == 0) {
                result.add(row);
            }
            for (AtMost other : kept) {
                if (row.factors[i] > 0 && other.factors[i] < 0) {
                    result.add(row.plus(other, -other.factors[i], row.factors[i]));
                }
            }
        }
        return result;
    }

    /** The least and the greatest value of variable i, or null when the rows can't all hold. */
    private static Fraction[] range(List<AtMost> rows, int i) {
        List<AtMost> first = without(rows, (i + 1) % 3);
        Fraction least = null;
        Fraction greatest = null;
        for (AtMost row : without(first, (i + 2) % 3)) {
            if (row.factors[i] == 0) {
                if (row.bound < 0) {
                    return null;
                }
                continue;
            }
            Fraction limit = new Fraction(row.bound, row.factors[i]);
            if (row.factors[i] > 0 && (greatest == null || limit.isLessThan(greatest))) {
                greatest = limit;
            }
            if (row.factors[i] < 0 && (least == null || least.isLessThan(limit))) {
                least = limit;
            }
        }
        return greatest.isLessThan(least) ? null : new Fraction[] {least, greatest};
    }

    /** The range of c0 * x0 + c1 * x1 + c2 * x2: one amount is replaced by that sum. */
    private static Fraction[] rangeOfSum(List<AtMost> rows, int[] c) {
        int j = c[0] != 0 ? 0 : c[1] != 0 ? 1 : 2;
        if (c[j] == 0) {
            Fraction zero = new Fraction(0, 1);
            return range(rows, 0) == null ? null : new Fraction[] {zero, zero};
        }
        List<AtMost> replaced = new ArrayList<>();
        int size = Math.abs(c[j]);
        int sign = c[j] / size;
        for (AtMost row : rows) {
            long[] f = new long[3];
            for (int i = 0; i < 3; i++) {
                f[i] = i == j ? sign * row.factors[j]
                        : size * row.factors[i] - sign * row.factors[j] * c[i];
            }
            replaced.add(new AtMost(f[0], f[1], f[2], size * row.bound));
        }
        return range(replaced, j);
    }

    /** A model of the object, and a run of calls on both. */
    private static final class Run {
        private final int run;
        private final AmountPlanner planner = new AmountPlanner();
        private final int[][] conditions = new int[5][];
        private int[] goal = {0, 0, 0};
        private int call = 0;

        // What the last state's questions are due to answer; found again when the state changes.
        private boolean known = false;
        private Fraction best;
        private Fraction[] point;
        private Fraction[][] reach;
        private int wholes;
        private int whole;
        private int wholePoint;

        Run(int run) {
            this.run = run;
        }

        void play() {
            while (call < CALLS) {
                change();
                int questions = 4 + pick(12);
                for (int q = 0; q < questions && call < CALLS; q++) {
                    ask();
                }
            }
        }

        private void due(String text, long got, long want) {
            call++;
            if (got != want) {
                wrong++;
                if (wrong <= REPORTS) {
                    System.out.println("run " + run + ", call " + call + ": " + text + " answered " + got
                            + ", due is " + want);
                }
            }
        }

        private void due(String text, boolean got, boolean want) {
            due(text, got ? 1 : 0, want ? 1 : 0);
        }

        private int small() {
            int style = run % 3;
            if (style == 0) {
                return pick(15) - 7;
            }
            return style == 1 ? pick(5) - 1 : pick(3) == 0 ? pick(15) - 7 : 0;
        }

        private int nearly(int least, int greatest) {
            int choice = pick(40);
            if (choice == 0) {
                return least - 1 - pick(3);
            }
            return choice == 1 ? greatest + 1 + pick(3) : least + pick(greatest - least + 1);
        }

        private void change() {
            int choice = pick(10);
            if (choice < 5) {
                add();
            } else if (choice < 8) {
                remove();
            } else {
                setGoal();
            }
            known = false;
        }

        private void add() {
            int[] c = {small(), small(), small(), pick(4) == 0 ? 1 : 2 * pick(2), 0};
            c[3] = pick(30) == 0 ? 3 - 4 * pick(2) : c[3];
            c[4] = pick(3) == 0 ? nearly(-99, 99) : c[0] * pick(21) + c[1] * pick(21) + c[2] * pick(21);
            int numbers = pick(30) == 0 ? 3376 * pick(2) - 1 : encode(c);
            boolean bad = numbers < 0 || numbers > 3374 || c[3] < 0 || c[3] > 2 || c[4] < -99 || c[4] > 99;
            int free = 0;
            while (free < 5 && conditions[free] != null) {
                free++;
            }
            int want = bad ? BAD : free == 5 ? FULL : free;
            due("add(" + numbers + ", " + c[3] + ", " + c[4] + ")", planner.add(numbers, c[3], c[4]), want);
            if (want >= 0) {
                int[] taken = decode(numbers);
                conditions[free] = new int[] {taken[0], taken[1], taken[2], c[3], c[4]};
            }
        }

        private void remove() {
            int k = nearly(0, 4);
            boolean there = k >= 0 && k < 5 && conditions[k] != null;
            due("remove(" + k + ")", planner.remove(k), there);
            if (there) {
                conditions[k] = null;
            }
        }

        private void setGoal() {
            int numbers = pick(3) == 0 ? nearly(0, 3374) : encode(new int[] {small(), small(), small()});
            boolean good = numbers >= 0 && numbers <= 3374;
            due("goal(" + numbers + ")", planner.goal(numbers), good);
            if (good) {
                goal = decode(numbers);
            }
        }

        private static int encode(int[] n) {
            return (n[0] + 7) + 15 * (n[1] + 7) + 225 * (n[2] + 7);
        }

        private static int[] decode(int numbers) {
            int[] n = new int[3];
            for (int i = 0; i < 3; i++) {
                n[i] = numbers % 15 - 7;
                numbers /= 15;
            }
            return n;
        }

        private List<AtMost> rowsBut(int leftOut) {
            List<AtMost> rows = new ArrayList<>();
            for (int i = 0; i < 3; i++) {
                long[] f = new long[3];
                f[i] = 1;
                rows.add(new AtMost(f[0], f[1], f[2], 20));
                rows.add(new AtMost(-f[0], -f[1], -f[2], 0));
            }
            for (int k = 0; k < 5; k++) {
                int[] c = conditions[k];
                if (k != leftOut && c != null && c[3] != 2) {
                    rows.add(new AtMost(c[0], c[1], c[2], c[4]));
                }
                if (k != leftOut && c != null && c[3] != 0) {
                    rows.add(new AtMost(-c[0], -c[1], -c[2], -c[4]));
                }
            }
            return rows;
        }

        private void findOut() {
            List<AtMost> rows = rowsBut(-1);
            Fraction[] worths = rangeOfSum(rows, goal);
            best = worths == null ? null : worths[1];
            point = new Fraction[3];
            reach = new Fraction[3][];
            if (best != null) {
                rows.add(new AtMost(-goal[0] * best.bottom, -goal[1] * best.bottom,
                        -goal[2] * best.bottom, -best.top));
                for (int i = 0; i < 3; i++) {
                    reach[i] = range(rowsBut(-1), i);
                    point[i] = range(rows, i)[0];
                    long[] f = new long[3];
                    f[i] = point[i].bottom;
                    rows.add(new AtMost(f[0], f[1], f[2], point[i].top));
                }
            }
            countWholes();
            known = true;
        }

        private void countWholes() {
            wholes = 0;
            whole = NONE;
            wholePoint = NONE;
            // The other way round than the first point asks for, so that it is compared, not met first.
            for (int code = 9260; code >= 0; code--) {
                int[] x = {code % 21, code / 21 % 21, code / 441};
                if (!meetsAll(x)) {
                    continue;
                }
                wholes++;
                int worth = goal[0] * x[0] + goal[1] * x[1] + goal[2] * x[2];
                if (wholePoint == NONE || worth > whole || worth == whole && rank(code) < rank(wholePoint)) {
                    whole = worth;
                    wholePoint = code;
                }
            }
        }

        private static int rank(int code) {
            return code % 21 * 441 + code / 21 % 21 * 21 + code / 441;
        }

        private boolean meetsAll(int[] x) {
            for (int[] c : conditions) {
                if (c != null) {
                    int sum = c[0] * x[0] + c[1] * x[1] + c[2] * x[2];
                    if (c[3] == 0 && sum > c[4] || c[3] == 1 && sum != c[4] || c[3] == 2 && sum < c[4]) {
                        return false;
                    }
                }
            }
            return true;
        }

        private int dueTight() {
            if (best == null) {
                return NONE;
            }
            int bits = 0;
            long common = point[0].bottom * point[1].bottom * point[2].bottom;
            for (int k = 0; k < 5; k++) {
                int[] c = conditions[k];
                if (c != null) {
                    long sum = 0;
                    for (int i = 0; i < 3; i++) {
                        sum += c[i] * point[i].top * (common / point[i].bottom);
                    }
                    bits |= sum == c[4] * common ? 1 << k : 0;
                }
            }
            return bits;
        }

        private boolean dueRedundant(int k) {
            if (k < 0 || k > 4 || conditions[k] == null) {
                return false;
            }
            int[] c = conditions[k];
            Fraction[] sums = rangeOfSum(rowsBut(k), c);
            if (sums == null) {
                return true;
            }
            Fraction b = new Fraction(c[4], 1);
            boolean above = c[3] != 2 && b.isLessThan(sums[1]);
            boolean below = c[3] != 0 && sums[0].isLessThan(b);
            return !above && !below;
        }

        private static long dueTop(boolean bad, Fraction fraction) {
            return bad ? BAD : fraction == null ? NONE : fraction.top;
        }

        private static long dueBottom(boolean bad, Fraction fraction) {
            return bad ? BAD : fraction == null ? NONE : fraction.bottom;
        }

        private void ask() {
            if (!known) {
                findOut();
            }
            withPoint += best != null ? 1 : 0;
            withoutPoint += best == null ? 1 : 0;
            fractions += best != null && best.bottom > 1 ? 1 : 0;
            wholesOnlyInFractions += best != null && wholes == 0 ? 1 : 0;
            int choice = pick(13);
            if (choice < 4) {
                askBest(choice);
            } else if (choice < 9) {
                askPoint(choice - 4);
            } else {
                askWhole(choice - 9);
            }
        }

        private void askBest(int choice) {
            int engine = nearly(0, 2);
            boolean bad = engine < 0 || engine > 2;
            if (choice == 0) {
                due("feasible(" + engine + ")", planner.feasible(engine), !bad && best != null);
            } else if (choice == 1) {
                due("bestTop(" + engine + ")", planner.bestTop(engine), dueTop(bad, best));
            } else if (choice == 2) {
                due("bestBottom(" + engine + ")", planner.bestBottom(engine), dueBottom(bad, best));
            } else {
                int bits = 0;
                for (int k = 0; k < 5; k++) {
                    bits |= conditions[k] != null ? 1 << k : 0;
                }
                due("conditions()", planner.conditions(), bits);
            }
        }

        private void askPoint(int choice) {
            int i = nearly(0, 2);
            int what = nearly(0, 1);
            boolean bad = i < 0 || i > 2;
            boolean badReach = bad || what < 0 || what > 1;
            Fraction amount = bad ? null : point[i];
            Fraction end = badReach || best == null ? null : reach[i][what];
            if (choice == 0) {
                due("pointTop(" + i + ")", planner.pointTop(i), dueTop(bad, amount));
            } else if (choice == 1) {
                due("pointBottom(" + i + ")", planner.pointBottom(i), dueBottom(bad, amount));
            } else if (choice == 2) {
                due("reachTop(" + i + ", " + what + ")", planner.reachTop(i, what), dueTop(badReach, end));
            } else if (choice == 3) {
                due("reachBottom(" + i + ", " + what + ")", planner.reachBottom(i, what),
                        dueBottom(badReach, end));
            } else {
                due("tight()", planner.tight(), dueTight());
            }
        }

        private void askWhole(int choice) {
            if (choice == 0) {
                due("whole()", planner.whole(), whole);
            } else if (choice == 1) {
                due("wholePoint()", planner.wholePoint(), wholePoint);
            } else if (choice == 2) {
                due("wholes()", planner.wholes(), wholes);
            } else {
                int k = nearly(0, 4);
                boolean want = dueRedundant(k);
                redundants += want ? 1 : 0;
                due("redundant(" + k + ")", planner.redundant(k), want);
            }
        }
    }
}
