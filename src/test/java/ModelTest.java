import java.util.ArrayList;
import java.util.HashSet;
import java.util.List;
import java.util.Set;

/**
 * Long runs of calls, right and wrong ones mixed, against a second way to find each answer. Over real points this is
 * elimination of one variable after the other (Fourier and Motzkin), which looks at no corner.
 */
public final class ModelTest {
    private static final int RUNS = 300;
    private static final int CALLS = 512;
    private static final int STYLES = 5;

    private static int wrong = 0;
    private static long seed;

    private static IntegerPlan plan;
    private static int[] tops;
    private static int[] goal;
    private static List<int[]> rules;

    public static void main(String[] args) {
        long asked = 0;
        for (int run = 0; run < RUNS && wrong < 20; run++) {
            seed = 7919L * run + 1;
            plan = new IntegerPlan();
            tops = new int[] {6, 6, 6};
            goal = new int[] {0, 0, 0};
            rules = new ArrayList<>();
            int style = run % STYLES;
            for (int call = 0; call < CALLS && wrong < 20; call++) {
                step(run, style);
                asked++;
            }
        }
        System.out.println(wrong == 0 ? asked + " calls are as the model says" : wrong + " calls are wrong");
        if (wrong != 0) {
            System.exit(1);
        }
    }

    // A fixed sequence: the test must be the same at each run.
    private static int pick(int from, int to) {
        seed = seed * 6364136223846793005L + 1442695040888963407L;
        return from + (int) ((seed >>> 33) % (to - from + 1));
    }

    private static int coefficient(int style) {
        if (pick(0, 60) == 0) {
            return pick(0, 1) == 0 ? 10 : -10;
        }
        return switch (style) {
            case 0 -> pick(-9, 9);
            case 1 -> pick(-2, 2);
            case 2 -> pick(0, 9);
            case 3 -> pick(-9, 3);
            // Near the edges, for the largest fractions.
            default -> pick(0, 1) == 0 ? pick(-9, -7) : pick(7, 9);
        };
    }

    private static int limit(int style) {
        if (pick(0, 40) == 0) {
            return pick(0, 1) == 0 ? 100 : -100;
        }
        return switch (style) {
            case 0 -> pick(-40, 60);
            case 1 -> pick(-4, 12);
            case 2 -> pick(-3, 99);
            case 3 -> pick(-99, 10);
            default -> pick(-60, 99);
        };
    }

    private static void step(int run, int style) {
        int what = pick(0, 15);
        int i = pick(-1, 3);
        int k = pick(-1, 6);
        switch (what) {
            case 0 -> stepTop(run, i, pick(-1, 7));
            case 1 -> stepGoal(run, new int[] {pick(-9, 9), pick(-9, 9), coefficient(style)});
            case 2, 3, 4 -> stepRule(run, new int[] {coefficient(style), coefficient(style), coefficient(style), limit(style)});
            case 5, 6 -> stepDrop(run, k);
            case 7 -> due(run, "best()", plan.best(), wholeAnswers()[1]);
            case 8 -> due(run, "point(" + i + ")", plan.point(i), i < 0 || i > 2 ? -1000 : wholeAnswers()[2 + i]);
            case 9 -> due(run, "fits()", plan.fits(), wholeAnswers()[0]);
            case 10 -> due(run, "largest(" + i + ")", plan.largest(i), i < 0 || i > 2 ? -1000 : wholeAnswers()[5 + i]);
            case 11 -> due(run, "solvable()", plan.solvable() ? 1 : 0, greatest(new int[] {0, 0, 0}, -1) != null ? 1 : 0);
            case 12 -> due(run, "gainTop()", plan.gainTop(), gain(0));
            case 13 -> due(run, "gainBottom()", plan.gainBottom(), gain(1));
            default -> due(run, "needless(" + k + ")", plan.needless(k) ? 1 : 0, isNeedless(k) ? 1 : 0);
        }
    }

    private static void due(int run, String call, long got, long want) {
        if (got != want) {
            wrong++;
            StringBuilder state = new StringBuilder("tops " + text(tops) + " goal " + text(goal) + " rules");
            for (int[] rule : rules) {
                state.append(' ').append(text(rule));
            }
            System.out.println("run " + run + ": " + call + " answered " + got + ", due is " + want + "; " + state);
        }
    }

    private static String text(int[] numbers) {
        return java.util.Arrays.toString(numbers);
    }

    private static boolean outside(int n, int most) {
        return n < -most || n > most;
    }

    private static void stepTop(int run, int i, int top) {
        boolean right = i >= 0 && i <= 2 && top >= 0 && top <= 6;
        due(run, "top(" + i + ", " + top + ")", plan.top(i, top) ? 1 : 0, right ? 1 : 0);
        if (right) {
            tops[i] = top;
        }
    }

    private static void stepGoal(int run, int[] c) {
        boolean right = !outside(c[0], 9) && !outside(c[1], 9) && !outside(c[2], 9);
        due(run, "goal" + text(c), plan.goal(c[0], c[1], c[2]) ? 1 : 0, right ? 1 : 0);
        if (right) {
            goal = c;
        }
    }

    private static void stepRule(int run, int[] r) {
        boolean right = !outside(r[0], 9) && !outside(r[1], 9) && !outside(r[2], 9) && !outside(r[3], 99);
        int want = rules.size() == 6 ? -1001 : !right ? -1000 : rules.size();
        due(run, "rule" + text(r), plan.rule(r[0], r[1], r[2], r[3]), want);
        if (want >= 0) {
            rules.add(r);
        }
    }

    private static void stepDrop(int run, int k) {
        boolean right = k >= 0 && k < rules.size();
        due(run, "drop(" + k + ")", plan.drop(k), right ? rules.size() - 1 : -1000);
        if (right) {
            rules.remove(k);
        }
    }

    /** The number of fit whole points, the best gain, the best point, and the largest values. */
    private static int[] wholeAnswers() {
        List<int[]> fit = new ArrayList<>();
        for (int n = 0; n < 343; n++) {
            int[] x = {n / 49, n / 7 % 7, n % 7};
            boolean within = x[0] <= tops[0] && x[1] <= tops[1] && x[2] <= tops[2];
            if (within && rules.stream().allMatch(r -> sum(r, x) <= r[3])) {
                fit.add(x);
            }
        }
        if (fit.isEmpty()) {
            return new int[] {0, -1002, -1002, -1002, -1002, -1002, -1002, -1002};
        }
        int best = fit.stream().mapToInt(x -> sum(goal, x)).max().getAsInt();
        int[] first = fit.stream().filter(x -> sum(goal, x) == best).findFirst().get();
        int[] all = {fit.size(), best, first[0], first[1], first[2], 0, 0, 0};
        for (int i = 0; i < 3; i++) {
            int variable = i;
            all[5 + i] = fit.stream().mapToInt(x -> x[variable]).max().getAsInt();
        }
        return all;
    }

    private static int sum(int[] c, int[] x) {
        return c[0] * x[0] + c[1] * x[1] + c[2] * x[2];
    }

    private static long gain(int part) {
        long[] fraction = greatest(goal, -1);
        return fraction == null ? -1002 : fraction[part];
    }

    private static boolean isNeedless(int k) {
        if (k < 0 || k >= rules.size()) {
            return false;
        }
        long[] most = greatest(rules.get(k), k);
        return most == null || most[0] <= rules.get(k)[3] * most[1];
    }

    /** The greatest sum of c times a real point that keeps all rules but one, in lowest terms; null without a point. */
    private static long[] greatest(int[] c, int without) {
        // A row r says r0 x0 + r1 x1 + r2 x2 + r3 g <= r4, where g is at most the sum.
        Set<List<Long>> rows = new HashSet<>();
        add(rows, -c[0], -c[1], -c[2], 1, 0);
        for (int i = 0; i < 3; i++) {
            add(rows, i == 0 ? -1 : 0, i == 1 ? -1 : 0, i == 2 ? -1 : 0, 0, 0);
            add(rows, i == 0 ? 1 : 0, i == 1 ? 1 : 0, i == 2 ? 1 : 0, 0, tops[i]);
        }
        for (int k = 0; k < rules.size(); k++) {
            if (k != without) {
                int[] r = rules.get(k);
                add(rows, r[0], r[1], r[2], 0, r[3]);
            }
        }
        for (int i = 0; i < 3; i++) {
            rows = eliminate(rows, i);
        }
        return leastBound(rows);
    }

    private static Set<List<Long>> eliminate(Set<List<Long>> rows, int i) {
        Set<List<Long>> left = new HashSet<>();
        for (List<Long> up : rows) {
            if (up.get(i) == 0) {
                left.add(up);
            }
            for (List<Long> down : rows) {
                if (up.get(i) > 0 && down.get(i) < 0) {
                    long[] both = new long[5];
                    for (int j = 0; j < 5; j++) {
                        both[j] = up.get(j) * -down.get(i) + down.get(j) * up.get(i);
                    }
                    add(left, both);
                }
            }
        }
        return left;
    }

    private static long[] leastBound(Set<List<Long>> rows) {
        long p = 0;
        long q = 0;
        for (List<Long> row : rows) {
            long bottom = row.get(3);
            long top = row.get(4);
            if (bottom == 0 && top < 0) {
                return null;
            }
            if (bottom > 0 && (q == 0 || Math.multiplyExact(top, q) < Math.multiplyExact(p, bottom))) {
                p = top;
                q = bottom;
            }
        }
        long divisor = divisor(p, q);
        return new long[] {p / divisor, q / divisor};
    }

    private static void add(Set<List<Long>> rows, long... row) {
        long divisor = 0;
        for (long n : row) {
            divisor = divisor(divisor, n);
        }
        List<Long> reduced = new ArrayList<>();
        for (long n : row) {
            reduced.add(divisor == 0 ? 0 : n / divisor);
        }
        rows.add(reduced);
    }

    private static long divisor(long a, long b) {
        return b == 0 ? Math.abs(a) : divisor(b, a % b);
    }
}
