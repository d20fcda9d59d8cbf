/** Each promise of the document by hand: ordinary inputs, the edges that it names, and wrong inputs. */
public final class PromiseTest {
    private static final int BAD = IntegerPlan.BAD;
    private static final int FULL = IntegerPlan.FULL;
    private static final int NONE = IntegerPlan.NONE;

    private static int wrong = 0;

    public static void main(String[] args) {
        constants();
        newObject();
        top();
        goal();
        rule();
        ruleFull();
        drop();
        best();
        point();
        fits();
        solvable();
        gain();
        gainOfFractions();
        needless();
        needlessEdges();
        largest();
        orderOfTests();
        refusedCallsChangeNothing();
        questionsChangeNothing();
        objectsAreApart();
        System.out.println(wrong == 0 ? "all promises hold" : wrong + " answers are wrong");
        if (wrong != 0) {
            System.exit(1);
        }
    }

    private static void due(String what, long got, long want) {
        if (got != want) {
            wrong++;
            System.out.println(what + " answered " + got + ", due is " + want);
        }
    }

    private static void due(String what, boolean got, boolean want) {
        if (got != want) {
            wrong++;
            System.out.println(what + " answered " + got + ", due is " + want);
        }
    }

    private static void duePoint(String what, IntegerPlan x, int x0, int x1, int x2) {
        due(what + " point(0)", x.point(0), x0);
        due(what + " point(1)", x.point(1), x1);
        due(what + " point(2)", x.point(2), x2);
    }

    private static void dueLargest(String what, IntegerPlan x, int x0, int x1, int x2) {
        due(what + " largest(0)", x.largest(0), x0);
        due(what + " largest(1)", x.largest(1), x1);
        due(what + " largest(2)", x.largest(2), x2);
    }

    private static void dueGain(String what, IntegerPlan x, int p, int q) {
        due(what + " gainTop()", x.gainTop(), p);
        due(what + " gainBottom()", x.gainBottom(), q);
    }

    private static void constants() {
        due("BAD", BAD, -1000);
        due("FULL", FULL, -1001);
        due("NONE", NONE, -1002);
    }

    private static void newObject() {
        IntegerPlan x = new IntegerPlan();
        due("1: fits()", x.fits(), 343);
        due("1: best()", x.best(), 0);
        duePoint("1:", x, 0, 0, 0);
        dueLargest("1:", x, 6, 6, 6);
        due("1: solvable()", x.solvable(), true);
        dueGain("1:", x, 0, 1);
        due("1: needless(0)", x.needless(0), false);
        due("1: drop(0)", x.drop(0), BAD);
        due("1: rule", x.rule(0, 0, 0, 0), 0);
    }

    private static void top() {
        IntegerPlan x = new IntegerPlan();
        due("2: top(0, 0)", x.top(0, 0), true);
        dueLargest("2: after top(0, 0)", x, 0, 6, 6);
        due("2: top(1, 3)", x.top(1, 3), true);
        dueLargest("2: after top(1, 3)", x, 0, 3, 6);
        due("2: top(2, 5)", x.top(2, 5), true);
        dueLargest("2: after top(2, 5)", x, 0, 3, 5);
        due("2: fits()", x.fits(), 24);
        x.goal(9, 9, 9);
        due("2: best()", x.best(), 72);
        dueGain("2:", x, 72, 1);
        int[][] refused = {{-1, 3}, {3, 3}, {0, -1}, {0, 7}, {1, 7}, {2, -1}, {-1, 7},
            {Integer.MIN_VALUE, 3}, {Integer.MAX_VALUE, 3}, {1, Integer.MIN_VALUE}, {1, Integer.MAX_VALUE}};
        for (int[] r : refused) {
            due("2: top(" + r[0] + ", " + r[1] + ")", x.top(r[0], r[1]), false);
            dueLargest("2: after a refused top", x, 0, 3, 5);
        }
        due("2: top(0, 6)", x.top(0, 6), true);
        dueLargest("2: after top(0, 6)", x, 6, 3, 5);
    }

    private static void goal() {
        IntegerPlan x = new IntegerPlan();
        due("3: goal(9, -9, 1)", x.goal(9, -9, 1), true);
        due("3: best()", x.best(), 60);
        duePoint("3:", x, 6, 0, 6);
        dueGain("3:", x, 60, 1);
        int[][] refused = {{10, 0, 0}, {-10, 0, 0}, {0, 10, 0}, {0, -10, 0}, {0, 0, 10}, {0, 0, -10},
            {Integer.MIN_VALUE, 0, 0}, {0, Integer.MAX_VALUE, 0}, {1, 2, Integer.MIN_VALUE}};
        for (int[] r : refused) {
            due("3: goal(" + r[0] + ", " + r[1] + ", " + r[2] + ")", x.goal(r[0], r[1], r[2]), false);
            due("3: best() after a refused goal", x.best(), 60);
            duePoint("3: after a refused goal", x, 6, 0, 6);
        }
        due("3: goal(-9, 9, -9)", x.goal(-9, 9, -9), true);
        due("3: best()", x.best(), 54);
        due("3: goal(9, 9, 9)", x.goal(9, 9, 9), true);
        due("3: best()", x.best(), 162);
    }

    private static void rule() {
        IntegerPlan x = new IntegerPlan();
        int[][] refused = {{10, 0, 0, 0}, {-10, 0, 0, 0}, {0, 10, 0, 0}, {0, -10, 0, 0}, {0, 0, 10, 0}, {0, 0, -10, 0},
            {1, 1, 1, 100}, {1, 1, 1, -100}, {Integer.MIN_VALUE, 0, 0, 0}, {0, Integer.MAX_VALUE, 0, 0},
            {0, 0, Integer.MIN_VALUE, 0}, {0, 0, 0, Integer.MAX_VALUE}, {0, 0, 0, Integer.MIN_VALUE}};
        for (int[] r : refused) {
            due("4: rule(" + r[0] + ", " + r[1] + ", " + r[2] + ", " + r[3] + ")", x.rule(r[0], r[1], r[2], r[3]), BAD);
            due("4: fits() after a refused rule", x.fits(), 343);
            due("4: needless(0) after a refused rule", x.needless(0), false);
        }
        due("4: rule(1, 0, 0, 2)", x.rule(1, 0, 0, 2), 0);
        due("4: fits()", x.fits(), 147);
        due("4: rule(9, 9, 9, 99)", x.rule(9, 9, 9, 99), 1);
        due("4: rule(-9, -9, -9, -99)", x.rule(-9, -9, -9, -99), 2);
        // The sum is 11 now, with variable 0 at most 2.
        due("4: fits()", x.fits(), 2 + 3 + 4);
        due("4: rule(0, 0, 0, 0)", x.rule(0, 0, 0, 0), 3);
        due("4: fits() with a rule that all keep", x.fits(), 2 + 3 + 4);
    }

    private static void ruleFull() {
        IntegerPlan x = new IntegerPlan();
        for (int k = 0; k < 6; k++) {
            due("4: rule " + k, x.rule(1, 1, 1, 18 - k), k);
        }
        due("4: the seventh", x.rule(0, 0, 0, -1), FULL);
        due("4: FULL before BAD, coefficient", x.rule(10, 0, 0, 0), FULL);
        due("4: FULL before BAD, limit", x.rule(0, 0, 0, 100), FULL);
        due("4: solvable() after FULL", x.solvable(), true);
        due("4: drop(5)", x.drop(5), 5);
        due("4: a bad one with a place free", x.rule(0, 0, 0, 100), BAD);
        due("4: the sixth again", x.rule(0, 0, 0, -1), 5);
        due("4: solvable()", x.solvable(), false);
    }

    private static void drop() {
        IntegerPlan x = new IntegerPlan();
        x.rule(1, 0, 0, 1);
        x.rule(0, 1, 0, 2);
        x.rule(0, 0, 1, 3);
        x.rule(1, 1, 1, 5);
        for (int k : new int[] {-1, 4, 5, 6, Integer.MIN_VALUE, Integer.MAX_VALUE}) {
            due("5: drop(" + k + ")", x.drop(k), BAD);
            dueLargest("5: after a refused drop", x, 1, 2, 3);
        }
        due("5: drop(1)", x.drop(1), 3);
        dueLargest("5: after drop(1)", x, 1, 5, 3);
        due("5: drop(3)", x.drop(3), BAD);
        due("5: drop(2)", x.drop(2), 2);
        dueLargest("5: after drop(2)", x, 1, 6, 3);
        due("5: drop(0)", x.drop(0), 1);
        dueLargest("5: after drop(0)", x, 6, 6, 3);
        due("5: rule(0, 1, 0, 4)", x.rule(0, 1, 0, 4), 1);
        due("5: drop(0)", x.drop(0), 1);
        dueLargest("5: the later one moved down", x, 6, 4, 6);
        due("5: drop(0)", x.drop(0), 0);
        dueLargest("5: without rules", x, 6, 6, 6);
        due("5: drop(0)", x.drop(0), BAD);
    }

    private static void best() {
        IntegerPlan x = new IntegerPlan();
        x.goal(5, 4, 3);
        x.rule(2, 3, 1, 5);
        x.rule(4, 1, 2, 11);
        x.rule(3, 4, 2, 8);
        due("6: best()", x.best(), 13);
        x.goal(-5, -4, -3);
        due("6: best() at the origin", x.best(), 0);
        x.rule(-1, -1, -1, -3);
        due("6: best() below 0", x.best(), -9);
        x.rule(0, 0, 0, -1);
        due("6: best() without a fit point", x.best(), NONE);
        x.drop(4);
        due("6: best() again", x.best(), -9);

        IntegerPlan least = new IntegerPlan();
        least.goal(-9, -9, -9);
        least.rule(-9, 0, 0, -54);
        least.rule(0, -9, 0, -54);
        least.rule(0, 0, -9, -54);
        due("6: the least best()", least.best(), -162);
        dueGain("6:", least, -162, 1);
    }

    private static void point() {
        IntegerPlan x = new IntegerPlan();
        x.goal(1, 1, 1);
        x.rule(1, 1, 1, 7);
        // Of the many points with sum 7 the first has the least variable 0, then the least variable 1.
        duePoint("7: first in order", x, 0, 1, 6);
        x.top(2, 2);
        duePoint("7: first in order", x, 0, 5, 2);
        x.top(1, 2);
        duePoint("7: first in order", x, 3, 2, 2);
        x.goal(0, 0, 0);
        duePoint("7: with the goal 0 0 0", x, 0, 0, 0);
        x.rule(-1, -1, 0, -2);
        duePoint("7: with the goal 0 0 0", x, 0, 2, 0);
        for (int i : new int[] {-1, 3, Integer.MIN_VALUE, Integer.MAX_VALUE}) {
            due("7: point(" + i + ")", x.point(i), BAD);
        }
        x.rule(0, 0, 0, -1);
        duePoint("7: without a fit point", x, NONE, NONE, NONE);
    }

    private static void fits() {
        IntegerPlan x = new IntegerPlan();
        x.rule(1, 1, 1, 2);
        due("8: fits()", x.fits(), 10);
        x.rule(-1, -1, -1, -2);
        due("8: fits() on the plane", x.fits(), 6);
        x.rule(2, 0, 0, 1);
        due("8: fits()", x.fits(), 3);
        x.rule(-2, 0, 0, -1);
        due("8: fits() between whole points", x.fits(), 0);
        IntegerPlan small = new IntegerPlan();
        small.top(0, 0);
        small.top(1, 0);
        small.top(2, 0);
        due("8: fits() with all tops 0", small.fits(), 1);
    }

    private static void solvable() {
        IntegerPlan x = new IntegerPlan();
        x.rule(2, 0, 0, 1);
        x.rule(-2, 0, 0, -1);
        due("9: solvable() with real points alone", x.solvable(), true);
        due("9: fits()", x.fits(), 0);
        x.rule(0, 0, 0, -1);
        due("9: solvable() with a rule that none keeps", x.solvable(), false);
        x.drop(2);
        x.rule(-9, -8, -8, -99);
        due("9: solvable() with 0.5, 6, 6", x.solvable(), true);
        x.top(2, 5);
        due("9: solvable() with 0.5, 6, 5 at the most", x.solvable(), false);

        IntegerPlan corner = new IntegerPlan();
        corner.rule(-1, -1, -1, -18);
        due("9: solvable() with one point", corner.solvable(), true);
        due("9: fits() with one point", corner.fits(), 1);
        corner.rule(1, 1, 1, 17);
        due("9: solvable() with none", corner.solvable(), false);

        IntegerPlan below = new IntegerPlan();
        below.rule(1, 0, 0, -1);
        due("9: solvable() below 0", below.solvable(), false);
        IntegerPlan above = new IntegerPlan();
        above.rule(0, 0, -1, -7);
        due("9: solvable() above the top", above.solvable(), false);

        IntegerPlan thirds = new IntegerPlan();
        thirds.rule(1, 1, 1, 1);
        thirds.rule(-3, 0, 0, -1);
        thirds.rule(0, -3, 0, -1);
        thirds.rule(0, 0, -3, -1);
        due("9: solvable() with 1/3 1/3 1/3 alone", thirds.solvable(), true);
        thirds.rule(9, 8, 7, 7);
        due("9: solvable() with its one point cut off", thirds.solvable(), false);
    }

    private static void gain() {
        IntegerPlan x = new IntegerPlan();
        x.goal(1, 1, 1);
        dueGain("10, 11:", x, 18, 1);
        x.rule(2, 2, 2, 9);
        dueGain("10, 11:", x, 9, 2);
        x.goal(2, 2, 2);
        dueGain("10, 11: in lowest terms", x, 9, 1);
        x.goal(-1, -1, -1);
        dueGain("10, 11: zero", x, 0, 1);
        x.rule(-2, -2, -2, -7);
        dueGain("10, 11: below zero", x, -7, 2);
        x.goal(-4, -4, -4);
        dueGain("10, 11: below zero in lowest terms", x, -14, 1);
        x.goal(0, 0, 0);
        dueGain("10, 11: the goal 0 0 0", x, 0, 1);
        x.rule(0, 0, 0, -1);
        dueGain("10, 11: no fit real point", x, NONE, NONE);
        x.drop(2);
        dueGain("10, 11: again", x, 0, 1);
    }

    private static void gainOfFractions() {
        IntegerPlan x = new IntegerPlan();
        x.goal(-1, 0, 0);
        x.rule(-7, 3, 2, -10);
        x.rule(3, -7, 1, -5);
        x.rule(2, 2, -7, 4);
        dueGain("10, 11: a corner of three rules", x, -527, 220);

        IntegerPlan mixed = new IntegerPlan();
        mixed.goal(1, 1, 1);
        mixed.rule(2, 0, 0, 1);
        mixed.rule(0, 3, 0, 1);
        mixed.rule(0, 0, 5, 1);
        dueGain("10, 11: 1/2 + 1/3 + 1/5", mixed, 31, 30);
        due("10: best()", mixed.best(), 0);

        IntegerPlan ninths = new IntegerPlan();
        ninths.goal(9, 9, 9);
        ninths.rule(9, 0, 0, 1);
        ninths.rule(0, 9, 0, 1);
        ninths.rule(0, 0, 9, 1);
        dueGain("10, 11: three ninths", ninths, 3, 1);
        ninths.goal(1, 1, 2);
        dueGain("10, 11: four ninths", ninths, 4, 9);

        // The top of a fraction may be the same number as a code.
        IntegerPlan likeNone = new IntegerPlan();
        likeNone.goal(-6, -9, -9);
        likeNone.rule(-7, 0, 0, -41);
        likeNone.rule(0, -1, 0, -6);
        likeNone.rule(0, 0, -1, -6);
        dueGain("10, 11: -1002 / 7", likeNone, -1002, 7);
        due("9: solvable() with -1002 / 7", likeNone.solvable(), true);

        IntegerPlan flat = new IntegerPlan();
        flat.top(1, 0);
        flat.top(2, 0);
        flat.goal(1, 9, 9);
        flat.rule(7, 9, 9, 41);
        dueGain("10, 11: with tops 0", flat, 41, 7);
    }

    private static void needless() {
        IntegerPlan x = new IntegerPlan();
        x.rule(2, 3, 1, 5);
        x.rule(4, 1, 2, 11);
        x.rule(3, 4, 2, 8);
        due("12: needless(0)", x.needless(0), false);
        due("12: needless(1)", x.needless(1), true);
        due("12: needless(2)", x.needless(2), false);
        for (int k : new int[] {-1, 3, 6, -6, Integer.MIN_VALUE, Integer.MAX_VALUE}) {
            due("12: needless(" + k + ") without such a rule", x.needless(k), false);
        }
        x.drop(1);
        due("12: needless(1) after drop(1)", x.needless(1), false);
        due("12: needless(2) after drop(1)", x.needless(2), false);
    }

    private static void needlessEdges() {
        IntegerPlan x = new IntegerPlan();
        x.rule(1, 1, 1, 18);
        due("12: touched by the tops", x.needless(0), true);
        x.top(0, 5);
        x.drop(0);
        x.rule(1, 1, 1, 17);
        due("12: touched by the lower tops", x.needless(0), true);
        x.top(0, 6);
        due("12: cut by the higher tops", x.needless(0), false);
        x.rule(2, 2, 2, 34);
        due("12: one of two like rules", x.needless(0), true);
        due("12: the other one", x.needless(1), true);
        x.drop(0);
        due("12: the last one", x.needless(0), false);

        // 2 * x0 <= 3 and x0 <= 1 part the same whole points, but not the same real ones.
        IntegerPlan real = new IntegerPlan();
        real.rule(2, 0, 0, 3);
        real.rule(1, 0, 0, 1);
        due("12: over real points", real.needless(0), true);
        due("12: over real points", real.needless(1), false);

        IntegerPlan none = new IntegerPlan();
        none.rule(0, 0, 0, -1);
        due("12: a rule that none keeps", none.needless(0), false);
        none.rule(1, 0, 0, 2);
        due("12: no point keeps the others", none.needless(1), true);
        due("12: the one that none keeps", none.needless(0), false);
        none.rule(0, 0, 0, -5);
        due("12: two that none keeps, first", none.needless(0), true);
        due("12: two that none keeps, second", none.needless(2), true);

        IntegerPlan zero = new IntegerPlan();
        zero.rule(0, 0, 0, 0);
        due("12: a rule that all keep", zero.needless(0), true);
        zero.rule(-1, 0, 0, 0);
        due("12: a variable is not below 0", zero.needless(1), true);
        zero.rule(-1, 0, 0, -1);
        due("12: a variable may be 0", zero.needless(2), false);

        // The two bounds of the sum lie between the same whole numbers.
        IntegerPlan near = new IntegerPlan();
        near.rule(9, 9, 9, 10);
        near.rule(8, 8, 8, 9);
        due("12: 10/9 against 9/8", near.needless(0), false);
        due("12: 9/8 against 10/9", near.needless(1), true);
    }

    private static void largest() {
        IntegerPlan x = new IntegerPlan();
        x.rule(2, 3, 5, 11);
        dueLargest("13:", x, 5, 3, 2);
        x.goal(-9, -9, -9);
        dueLargest("13: whatever the goal", x, 5, 3, 2);
        x.rule(-1, -1, 0, -2);
        dueLargest("13:", x, 5, 3, 1);
        x.rule(1, 1, 1, 0);
        dueLargest("13: without a fit point", x, NONE, NONE, NONE);
        for (int i : new int[] {-1, 3, Integer.MIN_VALUE, Integer.MAX_VALUE}) {
            due("13: largest(" + i + ")", x.largest(i), BAD);
        }
        x.drop(2);
        x.top(0, 0);
        dueLargest("13: with a top of 0", x, 0, 3, 1);
        x.drop(1);
        x.drop(0);
        x.rule(0, 0, 1, 0);
        dueLargest("13: a value of 0", x, 0, 6, 0);
        for (int i : new int[] {-1, 3, Integer.MIN_VALUE, Integer.MAX_VALUE}) {
            due("13: largest(" + i + ")", x.largest(i), BAD);
        }
    }

    private static void orderOfTests() {
        IntegerPlan x = new IntegerPlan();
        x.rule(0, 0, 0, -1);
        due("14: point(-1)", x.point(-1), BAD);
        due("14: point(3)", x.point(3), BAD);
        due("14: largest(-1)", x.largest(-1), BAD);
        due("14: largest(3)", x.largest(3), BAD);
        due("14: point(2)", x.point(2), NONE);
        due("14: largest(2)", x.largest(2), NONE);
    }

    private static void refusedCallsChangeNothing() {
        IntegerPlan x = new IntegerPlan();
        x.top(1, 4);
        x.goal(2, -3, 5);
        x.rule(3, 1, 2, 20);
        x.rule(-1, -2, 0, -3);
        String before = answers(x);
        x.top(1, 7);
        x.top(3, 1);
        x.goal(1, 10, 1);
        x.goal(1, 1, -10);
        x.rule(1, 1, 1, -100);
        x.rule(1, 1, -10, 0);
        x.drop(2);
        x.drop(-1);
        x.point(3);
        x.largest(-1);
        x.needless(2);
        String after = answers(x);
        if (!before.equals(after)) {
            wrong++;
            System.out.println("14: refused calls changed " + before + " to " + after);
        }
        due("14: the next rule's number", x.rule(0, 0, 0, 0), 2);
    }

    private static void questionsChangeNothing() {
        IntegerPlan x = new IntegerPlan();
        x.goal(-2, 3, 1);
        x.rule(4, 5, 3, 17);
        x.rule(-2, 7, 1, 12);
        String before = answers(x);
        for (int n = 0; n < 10; n++) {
            String again = answers(x);
            if (!before.equals(again)) {
                wrong++;
                System.out.println("questions changed " + before + " to " + again);
            }
        }
    }

    private static void objectsAreApart() {
        IntegerPlan x = new IntegerPlan();
        IntegerPlan y = new IntegerPlan();
        x.top(0, 1);
        x.goal(1, 1, 1);
        x.rule(1, 1, 1, 3);
        due("1: the other object's fits()", y.fits(), 343);
        due("1: the other object's best()", y.best(), 0);
        due("1: x.best()", x.best(), 3);
    }

    private static String answers(IntegerPlan x) {
        StringBuilder all = new StringBuilder();
        all.append(x.best()).append(' ').append(x.fits()).append(' ').append(x.solvable());
        all.append(' ').append(x.gainTop()).append('/').append(x.gainBottom());
        for (int i = 0; i < 3; i++) {
            all.append(' ').append(x.point(i)).append(' ').append(x.largest(i));
        }
        for (int k = 0; k < 6; k++) {
            all.append(' ').append(x.needless(k));
        }
        return all.toString();
    }
}
