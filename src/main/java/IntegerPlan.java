/**
 * Linear plans in three variables, over whole and over real numbers.
 *
 * Everything that bounds a point is held as a wall: three coefficients and a limit that their sum with the
 * variables may not exceed. Walls 0 to 2 say that a variable is at least 0, walls 3 to 5 that it is at most its
 * top, and the rules follow. The fit real points are thus a bounded body: if there are any, a greatest gain is
 * found at a corner, where three walls meet in one point.
 */
public final class IntegerPlan {
    public static final int BAD = -1000;
    public static final int FULL = -1001;
    public static final int NONE = -1002;

    private static final int VARIABLES = 3;
    private static final int MOST_TOP = 6;
    private static final int MOST_RULES = 6;
    private static final int MOST_COEFFICIENT = 9;
    private static final int MOST_LIMIT = 99;

    private static final int FIRST_TOP = VARIABLES;
    private static final int FIRST_RULE = FIRST_TOP + VARIABLES;
    private static final int MOST_WALLS = FIRST_RULE + MOST_RULES;
    private static final int MOST_COEFFICIENTS = MOST_WALLS * VARIABLES;
    private static final int NO_WALL = -1;

    // Euclid's steps on numbers below 2^63 stay under 100.
    private static final int MOST_DIVISIONS = 100;

    private final int[] coefficient = new int[MOST_COEFFICIENTS];
    private final int[] wallLimit = new int[MOST_WALLS];
    private int wallCount;

    private final int[] goalCoefficient = new int[VARIABLES];

    // What the last survey of the whole points found.
    private int fitCount;
    private int bestGain;
    private final int[] bestPoint = new int[VARIABLES];
    private final int[] largestValue = new int[VARIABLES];

    // Where the last three walls met: each variable is a top over the common bottom; bottom 0 means in no one point.
    private final int[] cornerTop = new int[VARIABLES];
    private int cornerBottom;

    // The greatest sum that the last search over the real points found, as a fraction; bottom 0 means no point.
    private long peakTop;
    private long peakBottom;

    public IntegerPlan() {
        for (int i = 0; i < VARIABLES; i++) {
            coefficient[i * VARIABLES + i] = -1;
            coefficient[(FIRST_TOP + i) * VARIABLES + i] = 1;
            wallLimit[FIRST_TOP + i] = MOST_TOP;
        }
        wallCount = FIRST_RULE;
    }

    public boolean top(int i, int top) {
        if (!isVariable(i) || top < 0 || top > MOST_TOP) {
            return false;
        }
        wallLimit[FIRST_TOP + i] = top;
        return true;
    }

    public boolean goal(int c0, int c1, int c2) {
        if (!areCoefficients(c0, c1, c2)) {
            return false;
        }
        goalCoefficient[0] = c0;
        goalCoefficient[1] = c1;
        goalCoefficient[2] = c2;
        return true;
    }

    public int rule(int a0, int a1, int a2, int limit) {
        if (wallCount >= MOST_WALLS) {
            return FULL;
        }
        if (!areCoefficients(a0, a1, a2) || limit < -MOST_LIMIT || limit > MOST_LIMIT) {
            return BAD;
        }
        int wall = wallCount;
        coefficient[wall * VARIABLES] = a0;
        coefficient[wall * VARIABLES + 1] = a1;
        coefficient[wall * VARIABLES + 2] = a2;
        wallLimit[wall] = limit;
        wallCount = wall + 1;
        return wall - FIRST_RULE;
    }

    public int drop(int k) {
        if (!isRule(k)) {
            return BAD;
        }
        for (int wall = FIRST_RULE + k; wall + 1 < wallCount; wall++) {
            moveDown(wall + 1);
        }
        wallCount--;
        return wallCount - FIRST_RULE;
    }

    public int best() {
        surveyWholePoints();
        return bestGain;
    }

    public int point(int i) {
        if (!isVariable(i)) {
            return BAD;
        }
        surveyWholePoints();
        return bestPoint[i];
    }

    public int fits() {
        surveyWholePoints();
        return fitCount;
    }

    public boolean solvable() {
        seekPeak(0, 0, 0, NO_WALL);
        return peakBottom != 0;
    }

    public int gainTop() {
        seekGoalPeak();
        return peakBottom == 0 ? NONE : (int) peakTop;
    }

    public int gainBottom() {
        seekGoalPeak();
        return peakBottom == 0 ? NONE : (int) peakBottom;
    }

    public boolean needless(int k) {
        if (!isRule(k)) {
            return false;
        }
        int wall = FIRST_RULE + k;
        int at = wall * VARIABLES;
        seekPeak(coefficient[at], coefficient[at + 1], coefficient[at + 2], wall);
        // Without any point left there is none that could break the rule.
        return peakBottom == 0 || peakTop <= wallLimit[wall] * peakBottom;
    }

    public int largest(int i) {
        if (!isVariable(i)) {
            return BAD;
        }
        surveyWholePoints();
        return largestValue[i];
    }

    private static boolean isVariable(int i) {
        return i >= 0 && i < VARIABLES;
    }

    private boolean isRule(int k) {
        return k >= 0 && k < wallCount - FIRST_RULE;
    }

    private static boolean isCoefficient(int c) {
        return c >= -MOST_COEFFICIENT && c <= MOST_COEFFICIENT;
    }

    private static boolean areCoefficients(int c0, int c1, int c2) {
        return isCoefficient(c0) && isCoefficient(c1) && isCoefficient(c2);
    }

    private void moveDown(int wall) {
        for (int i = 0; i < VARIABLES; i++) {
            coefficient[(wall - 1) * VARIABLES + i] = coefficient[wall * VARIABLES + i];
        }
        wallLimit[wall - 1] = wallLimit[wall];
    }

    private void surveyWholePoints() {
        fitCount = 0;
        // NONE lies below every gain and every value, so the first fit point replaces it.
        bestGain = NONE;
        for (int i = 0; i < VARIABLES; i++) {
            bestPoint[i] = NONE;
            largestValue[i] = NONE;
        }
        for (int x0 = 0; x0 <= MOST_TOP; x0++) {
            for (int x1 = 0; x1 <= MOST_TOP; x1++) {
                for (int x2 = 0; x2 <= MOST_TOP; x2++) {
                    if (keepsWalls(x0, x1, x2, 1, NO_WALL)) {
                        noteFitPoint(x0, x1, x2);
                    }
                }
            }
        }
    }

    private void noteFitPoint(int x0, int x1, int x2) {
        fitCount++;
        noteValue(0, x0);
        noteValue(1, x1);
        noteValue(2, x2);
        int gain = goalCoefficient[0] * x0 + goalCoefficient[1] * x1 + goalCoefficient[2] * x2;
        // The points come in their order, so an equal gain must not replace the first one.
        if (gain > bestGain) {
            bestGain = gain;
            bestPoint[0] = x0;
            bestPoint[1] = x1;
            bestPoint[2] = x2;
        }
    }

    private void noteValue(int i, int value) {
        if (value > largestValue[i]) {
            largestValue[i] = value;
        }
    }

    // The point is given as tops over one bottom above 0, so that whole points and corners share this test.
    private boolean keepsWalls(int top0, int top1, int top2, int bottom, int skipped) {
        for (int wall = 0; wall < wallCount; wall++) {
            int at = wall * VARIABLES;
            int sum = coefficient[at] * top0 + coefficient[at + 1] * top1 + coefficient[at + 2] * top2;
            if (wall != skipped && sum > wallLimit[wall] * bottom) {
                return false;
            }
        }
        return true;
    }

    private void seekGoalPeak() {
        seekPeak(goalCoefficient[0], goalCoefficient[1], goalCoefficient[2], NO_WALL);
        reducePeak();
    }

    // Corners on the skipped wall are looked at as well: each is a point like any other, so it does no harm.
    private void seekPeak(int c0, int c1, int c2, int skipped) {
        peakTop = 0;
        peakBottom = 0;
        for (int u = 0; u < wallCount; u++) {
            for (int v = u + 1; v < wallCount; v++) {
                for (int w = v + 1; w < wallCount; w++) {
                    meetWalls(u, v, w);
                    noteCorner(c0, c1, c2, skipped);
                }
            }
        }
    }

    private void noteCorner(int c0, int c1, int c2, int skipped) {
        if (cornerBottom == 0 || !keepsWalls(cornerTop[0], cornerTop[1], cornerTop[2], cornerBottom, skipped)) {
            return;
        }
        int sum = c0 * cornerTop[0] + c1 * cornerTop[1] + c2 * cornerTop[2];
        // A sum stays below 2^21 and a bottom below 2^13: each fits an int, but their product needs a long.
        if (peakBottom == 0 || sum * peakBottom > peakTop * cornerBottom) {
            peakTop = sum;
            peakBottom = cornerBottom;
        }
    }

    // Cramer's rule, written with the cross products of the walls' coefficients.
    private void meetWalls(int u, int v, int w) {
        int bottom = 0;
        for (int i = 0; i < VARIABLES; i++) {
            int crossing = cross(v, w, i);
            bottom += coefficient[u * VARIABLES + i] * crossing;
            cornerTop[i] = wallLimit[u] * crossing + wallLimit[v] * cross(w, u, i) + wallLimit[w] * cross(u, v, i);
        }
        cornerBottom = bottom;
        if (bottom < 0) {
            turnCornerSigns();
        }
    }

    private int cross(int v, int w, int i) {
        int next = (i + 1) % VARIABLES;
        int last = (i + 2) % VARIABLES;
        return coefficient[v * VARIABLES + next] * coefficient[w * VARIABLES + last]
            - coefficient[v * VARIABLES + last] * coefficient[w * VARIABLES + next];
    }

    private void turnCornerSigns() {
        cornerBottom = -cornerBottom;
        for (int i = 0; i < VARIABLES; i++) {
            cornerTop[i] = -cornerTop[i];
        }
    }

    private void reducePeak() {
        long divisor = commonDivisor(peakTop, peakBottom);
        if (divisor != 0) {
            peakTop /= divisor;
            peakBottom /= divisor;
        }
    }

    private static long commonDivisor(long a, long b) {
        long x = a < 0 ? -a : a;
        long y = b;
        for (int step = 0; step < MOST_DIVISIONS && y != 0; step++) {
            long rest = x % y;
            x = y;
            y = rest;
        }
        return x;
    }
}
