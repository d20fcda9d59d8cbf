import java.util.ArrayList;
import java.util.List;

/**
 * The boundary cases of the document, one test for each sentence that names one. A test begins with the number of the
 * promise and the sentence in the document's words, or with the part of it that is looked at, and every wrong answer is
 * told together with it.
 */
public final class BoundaryTest {
    private static final int BAD = -1000;
    private static final int FULL = -1001;
    private static final int NONE = -1002;

    // Far outside, or back inside once a number has been narrowed, negated or multiplied with wrap-around.
    private static final int[] FAR = {Integer.MIN_VALUE, Integer.MIN_VALUE + 1, Integer.MAX_VALUE, 256, -256, 257,
        65536, -65536, 65537, 1 << 30, -(1 << 30), 1431655765, 1431655766, 715827883, -1431655765};

    private static String sentence = "";
    private static int sentences = 0;
    private static int wrong = 0;

    public static void main(String[] args) {
        terms();
        promises1To5();
        promises6To8();
        promises9To11();
        promises12To14();
        System.out.println(wrong == 0 ? sentences + " sentences hold" : wrong + " answers are wrong");
        if (wrong != 0) {
            System.exit(1);
        }
    }

    private static void terms() {
        atMost512Calls();
        variables0To2();
        topFrom0To6();
        pointFrom0ToTop();
        upTo6Rules();
        coefficientsAndLimit();
        keepsAtMostTheLimit();
        goalCoefficients();
        gainOfAPoint();
        realOrWhole();
        fitKeepsAllRules();
        orderOfWholePoints();
    }

    private static void promises1To5() {
        newTops();
        newWithoutRules();
        newGoal();
        topSets();
        topVariableOutside();
        topOutside();
        topElseTrue();
        goalSets();
        goalOutside();
        goalElseTrue();
        ruleFull();
        ruleFullBeforeBad();
        ruleCoefficientOutside();
        ruleLimitOutside();
        ruleElseNumber();
        dropTakesOut();
        dropMovesDown();
        dropWithoutRule();
        dropElseRulesLeft();
    }

    private static void promises6To8() {
        bestIsGreatest();
        bestNone();
        pointIsFirst();
        pointNone();
        pointBad();
        fitsCounts();
    }

    private static void promises9To11() {
        solvableOrNot();
        solvableByATouch();
        gainInLowestTerms();
        gainBottomAboveZero();
        gainAtItsUtmost();
        gainLikeACode();
        gainTopNone();
        gainBottomNone();
    }

    private static void promises12To14() {
        needlessAtTheLimit();
        needlessAmongTheOthers();
        needlessWithoutPoints();
        needlessWithoutRule();
        largestValue();
        largestNone();
        largestBad();
        badBeforeNone();
        refusedTopChangesNothing();
        refusedGoalChangesNothing();
        refusedRuleChangesNothing();
        fullRuleChangesNothing();
        refusedDropChangesNothing();
        badQuestionsChangeNothing();
        noneChangesNothing();
    }

    // ---- Terms

    private static void atMost512Calls() {
        says("An object is used for at most 512 calls after it has been made");
        IntegerPlan x = new IntegerPlan();
        for (int round = 0; round < 127; round++) {
            due("call " + (4 * round + 1) + " rule", x.rule(2, 2, 2, 9), 0);
            due("call " + (4 * round + 2) + " drop(1)", x.drop(1), BAD);
            due("call " + (4 * round + 3) + " fits()", x.fits(), 35);
            due("call " + (4 * round + 4) + " drop(0)", x.drop(0), 0);
        }
        due("call 509 goal", x.goal(1, 1, 1), true);
        due("call 510 rule", x.rule(2, 2, 2, 9), 0);
        due("call 511 gainTop()", x.gainTop(), 9);
        due("call 512 gainBottom()", x.gainBottom(), 2);
    }

    private static void variables0To2() {
        says("There are three VARIABLES, 0 to 2");
        for (int i = 0; i < 3; i++) {
            IntegerPlan x = new IntegerPlan();
            due("top(" + i + ", 4)", x.top(i, 4), true);
            x.goal(3, 3, 3);
            for (int j = 0; j < 3; j++) {
                due("largest(" + j + ") after top(" + i + ", 4)", x.largest(j), j == i ? 4 : 6);
                due("point(" + j + ") after top(" + i + ", 4)", x.point(j), j == i ? 4 : 6);
            }
        }
        IntegerPlan x = new IntegerPlan();
        for (int i : new int[] {-1, 3}) {
            due("top(" + i + ", 4)", x.top(i, 4), false);
            due("point(" + i + ")", x.point(i), BAD);
            due("largest(" + i + ")", x.largest(i), BAD);
        }
    }

    private static void topFrom0To6() {
        says("each with a TOP from 0 to 6");
        for (int i = 0; i < 3; i++) {
            for (int top = 0; top <= 6; top++) {
                IntegerPlan x = new IntegerPlan();
                due("top(" + i + ", " + top + ")", x.top(i, top), true);
                due("fits()", x.fits(), 49 * (top + 1));
            }
        }
    }

    private static void pointFrom0ToTop() {
        says("a POINT gives each variable i a number from 0 to its top");
        IntegerPlan x = withTops(0, 3, 6);
        int[] tops = {0, 3, 6};
        for (int i = 0; i < 3; i++) {
            int[] c = unit(i, 1);
            x.goal(c[0], c[1], c[2]);
            due("best() of variable " + i, x.best(), tops[i]);
            dueGain("variable " + i, x, tops[i], 1);
            x.goal(-c[0], -c[1], -c[2]);
            due("best() of variable " + i + " turned", x.best(), 0);
            dueGain("variable " + i + " turned", x, 0, 1);
        }
    }

    private static void upTo6Rules() {
        says("There are up to 6 RULES, numbered from 0");
        IntegerPlan x = new IntegerPlan();
        for (int k = 0; k < 6; k++) {
            due("rule " + k, x.rule(1, 1, 1, 6 - k), k);
            due("fits() with rule " + k, x.fits(), (7 - k) * (8 - k) * (9 - k) / 6);
        }
        due("a seventh rule", x.rule(1, 1, 1, 0), FULL);
        due("fits() with six rules", x.fits(), 4);
    }

    private static void coefficientsAndLimit() {
        says("a rule has three coefficients from -9 to 9 and a limit from -99 to 99");
        for (int i = 0; i < 3; i++) {
            IntegerPlan x = new IntegerPlan();
            int[] c = unit(i, 9);
            due("rule with 9", x.rule(c[0], c[1], c[2], 44), 0);
            due("largest with 9 at the most 44", x.largest(i), 4);
            due("rule with -9", x.rule(-c[0], -c[1], -c[2], -36), 1);
            due("fits() with -9 at the most -36", x.fits(), 49);
        }
        IntegerPlan x = new IntegerPlan();
        due("rule with the limit 99", x.rule(9, 9, 9, 99), 0);
        due("rule with the limit -99", x.rule(-9, -9, -9, -99), 1);
        x.goal(1, 1, 1);
        due("best()", x.best(), 11);
        x.goal(-1, -1, -1);
        due("best() turned", x.best(), -11);
    }

    private static void keepsAtMostTheLimit() {
        says("a point KEEPS it iff the sum of the coefficients times the variables is at most the limit");
        // The one point is 6 5 4.
        for (int limit = -99; limit <= 99; limit++) {
            IntegerPlan x = onlyPoint654();
            x.rule(9, -9, 9, limit);
            due("fits() with 45 at the most " + limit, x.fits(), limit >= 45 ? 1 : 0);
            due("solvable() with 45 at the most " + limit, x.solvable(), limit >= 45);
            IntegerPlan y = onlyPoint654();
            y.rule(-9, 2, -8, limit);
            due("fits() with -76 at the most " + limit, y.fits(), limit >= -76 ? 1 : 0);
            due("solvable() with -76 at the most " + limit, y.solvable(), limit >= -76);
        }
    }

    private static void goalCoefficients() {
        says("There is a GOAL: three coefficients from -9 to 9");
        for (int i = 0; i < 3; i++) {
            IntegerPlan x = new IntegerPlan();
            int[] c = unit(i, 9);
            due("goal with 9", x.goal(c[0], c[1], c[2]), true);
            due("best() with 9", x.best(), 54);
            dueGain("with 9", x, 54, 1);
            due("goal with -9", x.goal(-c[0], -c[1], -c[2]), true);
            due("best() with -9", x.best(), 0);
            dueGain("with -9", x, 0, 1);
        }
    }

    private static void gainOfAPoint() {
        says("the GAIN of a point is the sum of these times the variables");
        IntegerPlan x = onlyPoint654();
        x.goal(7, -8, 3);
        due("best()", x.best(), 14);
        dueGain("", x, 14, 1);
        IntegerPlan most = new IntegerPlan();
        most.goal(9, 9, 9);
        due("the greatest best()", most.best(), 162);
        dueGain("the greatest", most, 162, 1);
        most.goal(-9, -9, -9);
        most.rule(-1, -1, -1, -18);
        due("the least best()", most.best(), -162);
        dueGain("the least", most, -162, 1);
    }

    private static void realOrWhole() {
        says("A point is REAL (its numbers may be any real numbers) or WHOLE (whole numbers)");
        IntegerPlan x = new IntegerPlan();
        x.goal(0, 0, 1);
        x.rule(0, 0, 8, 47);
        due("best() below 47/8", x.best(), 5);
        due("largest(2) below 47/8", x.largest(2), 5);
        dueGain("below 47/8", x, 47, 8);
        x.rule(0, 0, -8, -41);
        due("fits() from 41/8 to 47/8", x.fits(), 0);
        due("solvable() from 41/8 to 47/8", x.solvable(), true);
    }

    private static void fitKeepsAllRules() {
        says("A point is FIT iff it keeps all rules");
        IntegerPlan none = new IntegerPlan();
        due("fits() without rules", none.fits(), 343);
        due("solvable() without rules", none.solvable(), true);
        for (int broken = 0; broken < 6; broken++) {
            IntegerPlan x = withTops(6, 5, 4);
            for (int k = 0; k < 6; k++) {
                x.rule(-1, -1, -1, k == broken ? -16 : -15);
            }
            due("fits() with rule " + broken + " alone broken", x.fits(), 0);
            due("solvable() with rule " + broken + " alone broken", x.solvable(), false);
            x.drop(broken);
            due("fits() with none broken", x.fits(), 1);
            due("solvable() with none broken", x.solvable(), true);
        }
    }

    private static void orderOfWholePoints() {
        says("Whole points are ordered by variable 0, then 1, then 2, the smaller first");
        IntegerPlan x = new IntegerPlan();
        x.goal(6, 1, 0);
        x.rule(6, 1, 0, 6);
        duePoint("0 6 0 before 1 0 0", x, 0, 6, 0);
        x.drop(0);
        x.goal(6, 0, 1);
        x.rule(6, 0, 1, 6);
        duePoint("0 0 6 before 1 0 0", x, 0, 0, 6);
        x.drop(0);
        x.goal(0, 6, 1);
        x.rule(0, 6, 1, 6);
        duePoint("0 0 6 before 0 1 0", x, 0, 0, 6);
        x.drop(0);
        x.goal(6, 1, 1);
        x.rule(6, 1, 1, 12);
        duePoint("0 6 6 before 1 0 6 and 2 0 0", x, 0, 6, 6);
    }

    // ---- Promise 1

    private static void newTops() {
        says("1: All tops are 6");
        IntegerPlan x = new IntegerPlan();
        dueLargest("", x, 6, 6, 6);
        x.goal(1, 2, 3);
        dueGain("", x, 36, 1);
    }

    private static void newWithoutRules() {
        says("1: no rules");
        IntegerPlan x = new IntegerPlan();
        for (int k = 0; k < 6; k++) {
            due("needless(" + k + ")", x.needless(k), false);
            due("drop(" + k + ")", x.drop(k), BAD);
        }
        due("fits()", x.fits(), 343);
        due("the first rule", x.rule(1, 1, 1, 1), 0);
    }

    private static void newGoal() {
        says("1: the goal is 0 0 0");
        IntegerPlan x = new IntegerPlan();
        due("best()", x.best(), 0);
        dueGain("", x, 0, 1);
        duePoint("", x, 0, 0, 0);
        x.rule(-1, -1, -1, -18);
        due("best() at 6 6 6", x.best(), 0);
        dueGain("at 6 6 6", x, 0, 1);
    }

    // ---- Promise 2

    private static void topSets() {
        says("2: Sets the top of a variable");
        IntegerPlan x = new IntegerPlan();
        x.goal(1, 1, 1);
        int[] tops = {6, 6, 6};
        for (int n = 0; n < 21; n++) {
            int i = n % 3;
            tops[i] = n * 5 % 7;
            x.top(i, tops[i]);
            dueLargest("after top(" + i + ", " + tops[i] + ")", x, tops[0], tops[1], tops[2]);
            dueGain("after top(" + i + ", " + tops[i] + ")", x, tops[0] + tops[1] + tops[2], 1);
        }
    }

    private static void topVariableOutside() {
        says("2: i outside 0..2: refused, answers false");
        IntegerPlan x = new IntegerPlan();
        for (int i : outside(0, 2)) {
            for (int top : new int[] {0, 3, 6}) {
                due("top(" + i + ", " + top + ")", x.top(i, top), false);
            }
            due("fits()", x.fits(), 343);
        }
    }

    private static void topOutside() {
        says("2: top outside 0..6: refused, answers false");
        IntegerPlan x = new IntegerPlan();
        for (int top : outside(0, 6)) {
            for (int i = -1; i <= 3; i++) {
                due("top(" + i + ", " + top + ")", x.top(i, top), false);
            }
            due("fits()", x.fits(), 343);
            due("solvable()", x.solvable(), true);
        }
    }

    private static void topElseTrue() {
        says("2: Else true");
        IntegerPlan x = new IntegerPlan();
        for (int n = 0; n < 42; n++) {
            due("top(" + n % 3 + ", " + n / 3 % 7 + ")", x.top(n % 3, n / 3 % 7), true);
        }
        due("top(1, 6) once more", x.top(1, 6), true);
    }

    // ---- Promise 3

    private static void goalSets() {
        says("3: Sets the goal");
        IntegerPlan x = new IntegerPlan();
        x.goal(9, 9, 9);
        due("best()", x.best(), 162);
        x.goal(-9, 0, 4);
        due("best() with the next goal", x.best(), 24);
        duePoint("with the next goal", x, 0, 0, 6);
        dueGain("with the next goal", x, 24, 1);
        x.goal(0, 0, 0);
        due("best() with 0 0 0 again", x.best(), 0);
    }

    private static void goalOutside() {
        says("3: A coefficient outside -9..9: refused, answers false");
        for (int place = 0; place < 3; place++) {
            IntegerPlan x = new IntegerPlan();
            x.goal(1, 2, 3);
            for (int c : outside(-9, 9)) {
                int[] lone = unit(place, c);
                due("goal " + c + " at " + place, x.goal(lone[0], lone[1], lone[2]), false);
                due("goal of " + c + " alone", x.goal(c, c, c), false);
                due("best()", x.best(), 36);
                dueGain("", x, 36, 1);
            }
        }
    }

    private static void goalElseTrue() {
        says("3: Else true");
        IntegerPlan x = new IntegerPlan();
        int[] edge = {-9, 0, 9};
        for (int n = 0; n < 27; n++) {
            int c0 = edge[n / 9];
            int c1 = edge[n / 3 % 3];
            int c2 = edge[n % 3];
            due("goal(" + c0 + ", " + c1 + ", " + c2 + ")", x.goal(c0, c1, c2), true);
            int most = 6 * (Math.max(c0, 0) + Math.max(c1, 0) + Math.max(c2, 0));
            due("best()", x.best(), most);
            dueGain("", x, most, 1);
        }
    }

    // ---- Promise 4

    private static void ruleFull() {
        says("4: 6 rules are there: FULL");
        IntegerPlan x = new IntegerPlan();
        for (int k = 0; k < 5; k++) {
            x.rule(1, 0, 0, 5);
        }
        due("the sixth", x.rule(0, 1, 0, 5), 5);
        due("the seventh", x.rule(0, 0, 1, 5), FULL);
        due("the seventh again", x.rule(0, 0, 1, 5), FULL);
        dueLargest("", x, 5, 5, 6);
        due("drop(0)", x.drop(0), 5);
        due("the sixth again", x.rule(0, 0, 1, 5), 5);
        due("the seventh once more", x.rule(0, 0, 0, 0), FULL);
        dueLargest("", x, 5, 5, 5);
    }

    private static void ruleFullBeforeBad() {
        says("4: Tested in this order: FULL, then BAD");
        IntegerPlan x = withSixRules();
        for (int c : outside(-9, 9)) {
            due("rule(" + c + ", 0, 0, 0)", x.rule(c, 0, 0, 0), FULL);
            due("rule(0, " + c + ", 0, 0)", x.rule(0, c, 0, 0), FULL);
            due("rule(0, 0, " + c + ", 0)", x.rule(0, 0, c, 0), FULL);
        }
        for (int limit : outside(-99, 99)) {
            due("rule(0, 0, 0, " + limit + ")", x.rule(0, 0, 0, limit), FULL);
            due("rule(10, 10, 10, " + limit + ")", x.rule(10, 10, 10, limit), FULL);
        }
        x.drop(5);
        due("rule(10, 0, 0, 0) with a place free", x.rule(10, 0, 0, 0), BAD);
        due("rule(0, 0, 0, 100) with a place free", x.rule(0, 0, 0, 100), BAD);
    }

    private static void ruleCoefficientOutside() {
        says("4: a coefficient outside -9..9: BAD");
        for (int count = 0; count < 6; count++) {
            IntegerPlan x = new IntegerPlan();
            for (int k = 0; k < count; k++) {
                x.rule(0, 0, 0, 0);
            }
            for (int c : outside(-9, 9)) {
                due("rule(" + c + ", 0, 0, 0)", x.rule(c, 0, 0, 0), BAD);
                due("rule(9, " + c + ", -9, 99)", x.rule(9, c, -9, 99), BAD);
                due("rule(0, 0, " + c + ", -99)", x.rule(0, 0, c, -99), BAD);
            }
            due("fits()", x.fits(), 343);
            due("the next rule", x.rule(0, 0, 0, 0), count);
        }
    }

    private static void ruleLimitOutside() {
        says("4: limit outside -99..99: BAD");
        for (int count = 0; count < 6; count++) {
            IntegerPlan x = new IntegerPlan();
            for (int k = 0; k < count; k++) {
                x.rule(0, 0, 0, 0);
            }
            for (int limit : outside(-99, 99)) {
                due("rule(0, 0, 0, " + limit + ")", x.rule(0, 0, 0, limit), BAD);
                due("rule(9, -9, 9, " + limit + ")", x.rule(9, -9, 9, limit), BAD);
                due("rule(0, 10, 0, " + limit + ")", x.rule(0, 10, 0, limit), BAD);
            }
            due("fits()", x.fits(), 343);
            due("the next rule", x.rule(0, 0, 0, 0), count);
        }
    }

    private static void ruleElseNumber() {
        says("4: Else answers its number");
        IntegerPlan x = new IntegerPlan();
        int[] edge = {-9, 0, 9};
        for (int n = 0; n < 54; n++) {
            int limit = n < 27 ? 99 : -99;
            int number = n % 6;
            due("rule at an edge, " + n, x.rule(edge[n / 9 % 3], edge[n / 3 % 3], edge[n % 3], limit), number);
            if (number == 5) {
                dropAll(x, 6);
            }
        }
        x.rule(1, 0, 0, 6);
        x.rule(1, 0, 0, 6);
        x.drop(0);
        due("a rule after a drop", x.rule(1, 0, 0, 6), 1);
        due("the same rule again", x.rule(1, 0, 0, 6), 2);
    }

    // ---- Promise 5

    private static void dropTakesOut() {
        says("5: Takes rule k out");
        for (int k = 0; k < 6; k++) {
            IntegerPlan x = withSixRules();
            due("drop(" + k + ")", x.drop(k), 5);
            // Only the rule that bounds the sum by 3 + k has gone.
            due("needless(0) after drop(" + k + ")", x.needless(0), false);
            x.goal(1, 1, 1);
            due("best() after drop(" + k + ")", x.best(), k == 0 ? 4 : 3);
            dueGain("after drop(" + k + ")", x, k == 0 ? 4 : 3, 1);
        }
    }

    private static void dropMovesDown() {
        says("5: later ones move one down");
        for (int gone = 0; gone < 6; gone++) {
            IntegerPlan x = withSixRules();
            x.goal(1, 1, 1);
            x.drop(gone);
            // The sum is bounded by 3, 4, 5, .. without the one gone; each drop of the first shows the next.
            for (int left = 4; left >= 0; left--) {
                int number = 5 - left;
                int bound = 3 + (number < gone ? number : number + 1);
                due("drop(0) after drop(" + gone + ")", x.drop(0), left);
                due("best() with " + left + " left", x.best(), left == 0 ? 18 : bound);
                dueGain("with " + left + " left", x, left == 0 ? 18 : bound, 1);
            }
        }
        IntegerPlan x = new IntegerPlan();
        x.rule(7, -5, 3, 20);
        x.rule(-2, 4, -6, -8);
        x.drop(0);
        IntegerPlan y = new IntegerPlan();
        y.rule(-2, 4, -6, -8);
        dueSame("a rule moved down with all its numbers", x, y, 1);
    }

    private static void dropWithoutRule() {
        says("5: There is no rule k: BAD");
        for (int count = 0; count <= 6; count++) {
            IntegerPlan x = new IntegerPlan();
            for (int k = 0; k < count; k++) {
                x.rule(1, 1, 1, 3 + k);
            }
            for (int k : outside(0, count - 1)) {
                due("drop(" + k + ") with " + count + " rules", x.drop(k), BAD);
            }
            for (int k = count; k <= 12; k++) {
                due("drop(" + k + ") with " + count + " rules", x.drop(k), BAD);
                due("drop(" + (-1 - k) + ") with " + count + " rules", x.drop(-1 - k), BAD);
            }
            due("fits()", x.fits(), count == 0 ? 343 : 20);
        }
    }

    private static void dropElseRulesLeft() {
        says("5: Else answers the number of rules left");
        IntegerPlan first = withSixRules();
        IntegerPlan last = withSixRules();
        for (int left = 5; left >= 0; left--) {
            due("drop(0)", first.drop(0), left);
            due("drop(" + left + ")", last.drop(left), left);
        }
        due("drop(0) with none left", first.drop(0), BAD);
        due("drop(0) with none left", last.drop(0), BAD);
        due("a rule after the last drop", first.rule(0, 0, 0, 0), 0);
    }

    // ---- Promise 6

    private static void bestIsGreatest() {
        says("6: The greatest gain of a fit whole point");
        IntegerPlan x = new IntegerPlan();
        x.goal(9, 9, 9);
        due("at the last point", x.best(), 162);
        x.goal(-9, -9, -9);
        due("at the first point", x.best(), 0);
        x.rule(-1, -1, -1, -1);
        due("below 0", x.best(), -9);
        IntegerPlan single = withTops(0, 0, 0);
        single.goal(9, 9, 9);
        due("with all tops 0", single.best(), 0);
        IntegerPlan inner = new IntegerPlan();
        inner.goal(8, 5, 0);
        inner.rule(9, 6, 0, 44);
        // The greatest real gain is at 44/9 0; the greatest whole one at 4 1, not at 4 0.
        due("away from the greatest real gain", inner.best(), 37);
        dueGain("the greatest real gain", inner, 352, 9);
    }

    private static void bestNone() {
        says("6: NONE if there is none");
        for (IntegerPlan x : withoutWholePoints()) {
            due("best()", x.best(), NONE);
            x.goal(-9, -9, -9);
            due("best() with another goal", x.best(), NONE);
        }
        IntegerPlan x = new IntegerPlan();
        x.rule(0, 0, 0, -1);
        due("best() with a rule that none keeps", x.best(), NONE);
        x.drop(0);
        due("best() after its drop", x.best(), 0);
    }

    // ---- Promise 7

    private static void pointIsFirst() {
        says("7: Variable i in the first of the fit whole points with the greatest gain");
        IntegerPlan x = new IntegerPlan();
        duePoint("all points have the gain 0", x, 0, 0, 0);
        x.rule(-1, -1, -1, -18);
        duePoint("one fit point, the last", x, 6, 6, 6);
        x.drop(0);
        x.rule(-1, -1, -1, -17);
        duePoint("four fit points, all with the gain 0", x, 5, 6, 6);
        x.goal(1, 0, 0);
        duePoint("greatest gain with variable 0 at 6", x, 6, 5, 6);
        x.goal(1, 1, 0);
        duePoint("greatest gain with variables 0 and 1 at 6", x, 6, 6, 5);
        x.goal(-1, -1, -1);
        duePoint("greatest gain below 0", x, 5, 6, 6);
    }

    private static void pointNone() {
        says("7: NONE if there is none");
        for (IntegerPlan x : withoutWholePoints()) {
            duePoint("", x, NONE, NONE, NONE);
        }
        IntegerPlan x = new IntegerPlan();
        x.goal(1, 2, 3);
        duePoint("before", x, 6, 6, 6);
        x.rule(0, 0, 0, -1);
        duePoint("after a rule that none keeps", x, NONE, NONE, NONE);
        x.drop(0);
        duePoint("after its drop", x, 6, 6, 6);
    }

    private static void pointBad() {
        says("7: BAD for i outside 0..2");
        IntegerPlan x = new IntegerPlan();
        for (int i : outside(0, 2)) {
            due("point(" + i + ")", x.point(i), BAD);
        }
        duePoint("within", x, 0, 0, 0);
    }

    // ---- Promise 8

    private static void fitsCounts() {
        says("8: The number of fit whole points");
        IntegerPlan x = new IntegerPlan();
        due("all", x.fits(), 343);
        x.rule(-1, -1, -1, -1);
        due("all but the first", x.fits(), 342);
        x.rule(1, 1, 1, 17);
        due("all but the first and the last", x.fits(), 341);
        x.rule(1, 1, 1, 1);
        due("three", x.fits(), 3);
        due("one", withTops(0, 0, 0).fits(), 1);
        due("one at the last point", onlyPoint654().fits(), 1);
        for (IntegerPlan none : withoutWholePoints()) {
            due("none", none.fits(), 0);
        }
    }

    // ---- Promise 9

    private static void solvableOrNot() {
        says("9: Whether there is a fit real point");
        due("with all tops 0", withTops(0, 0, 0).solvable(), true);
        IntegerPlan zero = new IntegerPlan();
        zero.rule(0, 0, 0, 0);
        due("with a rule that all keep", zero.solvable(), true);
        zero.rule(0, 0, 0, -1);
        due("with a rule that none keeps", zero.solvable(), false);
        zero.drop(1);
        due("after its drop", zero.solvable(), true);
        for (int i = 0; i < 3; i++) {
            int[] c = unit(i, 1);
            due("variable at most 0", with(c, 0).solvable(), true);
            due("variable below 0", with(c, -1).solvable(), false);
            due("variable at least 6", with(unit(i, -1), -6).solvable(), true);
            due("variable above 6", with(unit(i, -1), -7).solvable(), false);
            due("variable a little above 6", with(unit(i, -9), -55).solvable(), false);
        }
    }

    private static void solvableByATouch() {
        says("9: Whether there is a fit real point, when no more than one is left");
        IntegerPlan touch = with(new int[] {-1, -1, -1}, -18);
        due("6 6 6 alone", touch.solvable(), true);
        due("beyond 6 6 6", with(new int[] {-1, -1, -1}, -19).solvable(), false);
        due("0 0 0 alone", with(new int[] {1, 1, 1}, 0).solvable(), true);
        due("beyond 0 0 0", with(new int[] {1, 1, 1}, -1).solvable(), false);

        IntegerPlan slit = with(new int[] {9, 0, 0}, 10);
        slit.rule(-9, 0, 0, -10);
        due("10/9 alone", slit.solvable(), true);
        slit.rule(-8, 0, 0, -9);
        due("from 9/8 to 10/9", slit.solvable(), false);
        IntegerPlan open = with(new int[] {8, 0, 0}, 9);
        open.rule(-9, 0, 0, -10);
        due("from 10/9 to 9/8", open.solvable(), true);

        // The three rules meet in the point 1/3 1/3 1/3 and nowhere else within them.
        IntegerPlan thirds = with(new int[] {1, 1, 1}, 1);
        thirds.rule(-3, 0, 0, -1);
        thirds.rule(0, -3, 0, -1);
        thirds.rule(0, 0, -3, -1);
        due("1/3 1/3 1/3 alone", thirds.solvable(), true);
        thirds.rule(9, -9, 3, 1);
        due("and a rule through it", thirds.solvable(), true);
        thirds.rule(9, -9, 9, 2);
        due("and a rule that cuts it off", thirds.solvable(), false);
    }

    // ---- Promises 10 and 11

    private static void gainInLowestTerms() {
        says("10: The greatest gain of a fit real point is a fraction p / q in lowest terms: this is p");
        IntegerPlan zero = with(new int[] {9, 9, 9}, 4);
        zero.goal(-7, -8, -9);
        dueGain("0 is 0 / 1", zero, 0, 1);
        zero.goal(9, 9, 9);
        dueGain("36/9 is 4 / 1", zero, 4, 1);
        zero.goal(6, 6, 6);
        dueGain("24/9 is 8 / 3", zero, 8, 3);
        zero.goal(1, 1, 1);
        dueGain("4 / 9", zero, 4, 9);
        IntegerPlan below = with(new int[] {-9, -9, -9}, -4);
        below.goal(-6, -6, -6);
        dueGain("-24/9 is -8 / 3", below, -8, 3);
        below.goal(-9, -9, -9);
        dueGain("-36/9 is -4 / 1", below, -4, 1);
        IntegerPlan mixed = with(new int[] {2, 0, 0}, 1);
        mixed.rule(0, 3, 0, 1);
        mixed.rule(0, 0, 5, 1);
        mixed.goal(1, 1, 1);
        dueGain("1/2 + 1/3 + 1/5", mixed, 31, 30);
        mixed.goal(4, -3, 5);
        dueGain("4/2 + 5/5", mixed, 3, 1);
    }

    private static void gainBottomAboveZero() {
        says("11: with q > 0: This is q");
        // The same rules in each order: the corner's sign turns with it.
        int[][] rules = {{-7, 3, 2, -10}, {3, -7, 1, -5}, {2, 2, -7, 4}};
        int[][] orders = {{0, 1, 2}, {0, 2, 1}, {1, 0, 2}, {1, 2, 0}, {2, 0, 1}, {2, 1, 0}};
        for (int[] order : orders) {
            IntegerPlan x = new IntegerPlan();
            for (int k : order) {
                x.rule(rules[k][0], rules[k][1], rules[k][2], rules[k][3]);
            }
            x.goal(-1, 0, 0);
            dueGain("below 0", x, -527, 220);
            x.goal(4, -3, 7);
            dueGain("above 0", x, 375, 7);
        }
    }

    private static void gainAtItsUtmost() {
        says("10, 11: a fraction p / q, where the rules make p and q large");
        IntegerPlan bottom = with(new int[] {8, -9, 9}, 5);
        bottom.rule(9, -9, -9, -38);
        bottom.rule(9, 9, 8, 38);
        bottom.goal(9, -1, 5);
        dueGain("a large q", bottom, 32618, 2907);
        IntegerPlan top = with(new int[] {7, 9, -9}, 35);
        top.rule(-9, 8, 9, 56);
        top.rule(9, -7, 8, 43);
        top.goal(9, 8, 7);
        dueGain("a large p", top, 295080, 2347);
        IntegerPlan least = with(new int[] {-9, 8, -9}, -28);
        least.rule(8, -7, -9, -30);
        least.rule(-9, -9, 9, -70);
        least.goal(-6, -8, -7);
        dueGain("a large p below 0", least, -260896, 2583);
    }

    private static void gainLikeACode() {
        says("10: this is p, even where p is the number of a code");
        IntegerPlan bad = atLeast66(-9, -7);
        bad.goal(-4, -9, -9);
        dueGain("-1000 / 9", bad, -1000, 9);
        IntegerPlan full = atLeast66(-9, -29);
        full.goal(-1, -9, -9);
        dueGain("-1001 / 9", full, -1001, 9);
        IntegerPlan none = atLeast66(-7, -41);
        none.goal(-6, -9, -9);
        dueGain("-1002 / 7", none, -1002, 7);
        due("solvable()", none.solvable(), true);
    }

    private static void gainTopNone() {
        says("10: NONE if there is no fit real point");
        for (IntegerPlan x : withoutRealPoints()) {
            due("gainTop()", x.gainTop(), NONE);
            x.goal(9, -9, 9);
            due("gainTop() with another goal", x.gainTop(), NONE);
        }
        IntegerPlan real = betweenWholePoints();
        due("gainTop() with real points alone", real.gainTop(), 0);
    }

    private static void gainBottomNone() {
        says("11: NONE if there is no fit real point");
        for (IntegerPlan x : withoutRealPoints()) {
            due("gainBottom()", x.gainBottom(), NONE);
            x.goal(9, -9, 9);
            due("gainBottom() with another goal", x.gainBottom(), NONE);
        }
        IntegerPlan real = betweenWholePoints();
        due("gainBottom() with real points alone", real.gainBottom(), 1);
    }

    // ---- Promise 12

    private static void needlessAtTheLimit() {
        says("12: Whether every real point that keeps all rules but rule k keeps rule k, too");
        for (int i = 0; i < 3; i++) {
            due("at most the top", with(unit(i, 1), 6).needless(0), true);
            due("a little below the top", with(unit(i, 9), 53).needless(0), false);
            due("at least 0", with(unit(i, -1), 0).needless(0), true);
            due("a little above 0", with(unit(i, -9), -1).needless(0), false);
        }
        due("the sum at most 18", with(new int[] {1, 1, 1}, 18).needless(0), true);
        due("the sum at most 17", with(new int[] {1, 1, 1}, 17).needless(0), false);
        due("all keep it", with(new int[] {0, 0, 0}, 0).needless(0), true);
        due("none keeps it", with(new int[] {0, 0, 0}, -1).needless(0), false);
        IntegerPlan lower = with(new int[] {9, 0, 0}, 27);
        due("3 with the top 6", lower.needless(0), false);
        lower.top(0, 4);
        due("3 with the top 4", lower.needless(0), false);
        lower.top(0, 3);
        due("3 with the top 3", lower.needless(0), true);
        lower.top(0, 0);
        due("3 with the top 0", lower.needless(0), true);
        // The whole points alone would keep it.
        due("5/2 with the top 2", withTops(2, 6, 6, 2, 0, 0, 5).needless(0), true);
        due("5/2 with the top 3", withTops(3, 6, 6, 2, 0, 0, 5).needless(0), false);
    }

    private static void needlessAmongTheOthers() {
        says("12: all rules but rule k");
        IntegerPlan twins = withSixRules();
        due("the narrowest", twins.needless(0), false);
        for (int k = 1; k < 6; k++) {
            due("the wider rule " + k, twins.needless(k), true);
        }
        twins.drop(5);
        twins.rule(2, 2, 2, 6);
        due("the first of two alike", twins.needless(0), true);
        due("the second of two alike", twins.needless(5), true);
        IntegerPlan near = with(new int[] {9, 9, 9}, 10);
        near.rule(8, 8, 8, 9);
        due("10/9 beside 9/8", near.needless(0), false);
        due("9/8 beside 10/9", near.needless(1), true);
        // Whole points keep the first once they keep the second, and the other way round; real points don't.
        IntegerPlan parted = with(new int[] {2, 0, 0}, 3);
        parted.rule(3, 0, 0, 5);
        due("3/2 beside 5/3", parted.needless(0), false);
        due("5/3 beside 3/2", parted.needless(1), true);
        // x0 + x1 <= 3 follows from 2 x0 + x1 <= 4 and x0 + 2 x1 <= 5, which meet in 1 2, but from neither alone.
        IntegerPlan both = with(new int[] {2, 1, 0}, 4);
        both.rule(1, 2, 0, 5);
        both.rule(1, 1, 0, 3);
        due("touched where two others meet", both.needless(2), true);
        both.drop(0);
        due("with one of them alone", both.needless(1), false);
    }

    private static void needlessWithoutPoints() {
        says("12: every real point, when there is none that keeps the others");
        IntegerPlan x = with(new int[] {0, 0, 0}, -1);
        due("the only rule", x.needless(0), false);
        x.rule(9, 9, 9, -99);
        due("none keeps either, first", x.needless(0), true);
        due("none keeps either, second", x.needless(1), true);
        x.drop(1);
        x.rule(1, 0, 0, 3);
        due("none keeps the other", x.needless(1), true);
        due("the one that none keeps", x.needless(0), false);
        IntegerPlan two = with(new int[] {1, 1, 0}, 3);
        two.rule(-1, -1, 0, -4);
        two.rule(0, 0, 1, 2);
        due("two shut out each other, first", two.needless(0), false);
        due("two shut out each other, second", two.needless(1), false);
        due("two shut out each other, a third", two.needless(2), true);
    }

    private static void needlessWithoutRule() {
        says("12: false if there is no rule k");
        for (int count = 0; count <= 6; count++) {
            IntegerPlan x = new IntegerPlan();
            for (int k = 0; k < count; k++) {
                x.rule(0, 0, 0, 0);
            }
            for (int k = 0; k < count; k++) {
                due("needless(" + k + ") with " + count + " rules", x.needless(k), true);
            }
            for (int k : outside(0, count - 1)) {
                due("needless(" + k + ") with " + count + " rules", x.needless(k), false);
            }
            for (int k = count; k <= 12; k++) {
                due("needless(" + k + ") with " + count + " rules", x.needless(k), false);
                due("needless(" + (-1 - k) + ") with " + count + " rules", x.needless(-1 - k), false);
            }
        }
        IntegerPlan x = withSixRules();
        x.drop(0);
        due("needless(5) after a drop", x.needless(5), false);
        due("needless(4) after a drop", x.needless(4), true);
        x.rule(0, 0, 0, -1);
        x.drop(0);
        due("needless(5) without a fit point", x.needless(5), false);
        due("needless(-1) without a fit point", x.needless(-1), false);
    }

    // ---- Promise 13

    private static void largestValue() {
        says("13: The greatest value that variable i has in a fit whole point");
        dueLargest("all tops 0", withTops(0, 0, 0), 0, 0, 0);
        dueLargest("one point", onlyPoint654(), 6, 5, 4);
        IntegerPlan x = with(new int[] {9, 8, 7}, 46);
        dueLargest("each in another point", x, 5, 5, 6);
        x.goal(-9, -9, -9);
        dueLargest("whatever the goal", x, 5, 5, 6);
        dueLargest("a value of 0", with(new int[] {2, 2, 2}, 1), 0, 0, 0);
        IntegerPlan real = with(new int[] {9, 0, 0}, 53);
        dueLargest("below a real value of 53/9", real, 5, 6, 6);
    }

    private static void largestNone() {
        says("13: NONE if there is none");
        for (IntegerPlan x : withoutWholePoints()) {
            dueLargest("", x, NONE, NONE, NONE);
        }
        IntegerPlan x = new IntegerPlan();
        dueLargest("before", x, 6, 6, 6);
        x.rule(0, 0, 0, -1);
        dueLargest("after a rule that none keeps", x, NONE, NONE, NONE);
        x.drop(0);
        dueLargest("after its drop", x, 6, 6, 6);
    }

    private static void largestBad() {
        says("13: BAD for i outside 0..2");
        IntegerPlan x = new IntegerPlan();
        for (int i : outside(0, 2)) {
            due("largest(" + i + ")", x.largest(i), BAD);
        }
        dueLargest("within", x, 6, 6, 6);
    }

    // ---- Promise 14

    private static void badBeforeNone() {
        says("14: point and largest: tested in this order: i outside 0..2: BAD; there is no fit whole point: NONE");
        for (IntegerPlan x : withoutWholePoints()) {
            for (int i : outside(0, 2)) {
                due("point(" + i + ")", x.point(i), BAD);
                due("largest(" + i + ")", x.largest(i), BAD);
            }
            duePoint("within", x, NONE, NONE, NONE);
            dueLargest("within", x, NONE, NONE, NONE);
        }
    }

    private static void refusedTopChangesNothing() {
        says("14: a call that is refused changes nothing: top");
        IntegerPlan x = withThreeRules();
        for (int n : FAR) {
            x.top(n, 0);
            x.top(1, n);
        }
        for (int i = 0; i < 3; i++) {
            x.top(i, -1);
            x.top(i, 7);
        }
        x.top(-1, 0);
        x.top(3, 0);
        dueSame("", x, withThreeRules(), 3);
    }

    private static void refusedGoalChangesNothing() {
        says("14: a call that is refused changes nothing: goal");
        for (int place = 0; place < 3; place++) {
            for (int c : new int[] {10, -10, Integer.MIN_VALUE, Integer.MAX_VALUE}) {
                IntegerPlan x = withThreeRules();
                // The other coefficients are right ones and unlike those of the goal that is there.
                x.goal(place == 0 ? c : 9, place == 1 ? c : 8, place == 2 ? c : -7);
                dueSame("goal with " + c + " at " + place, x, withThreeRules(), 3);
            }
        }
    }

    private static void refusedRuleChangesNothing() {
        says("14: a call that is refused changes nothing: rule, by BAD");
        int[][] bad = {{10, 1, 1, -1}, {1, -10, 1, -1}, {1, 1, 10, -1}, {0, 0, 0, -100}, {0, 0, 0, 100},
            {Integer.MIN_VALUE, 0, 0, -1}, {0, 0, 0, Integer.MIN_VALUE}};
        for (int[] r : bad) {
            IntegerPlan x = withThreeRules();
            due("rule", x.rule(r[0], r[1], r[2], r[3]), BAD);
            due("needless(3) after it", x.needless(3), false);
            dueSame("rule " + r[0] + " " + r[1] + " " + r[2] + " " + r[3], x, withThreeRules(), 3);
        }
    }

    private static void fullRuleChangesNothing() {
        says("14: a call that is refused changes nothing: rule, by FULL");
        IntegerPlan x = withSixRules();
        due("rule(0, 0, 0, -1)", x.rule(0, 0, 0, -1), FULL);
        due("rule(1, 1, 1, 1)", x.rule(1, 1, 1, 1), FULL);
        due("rule(10, 0, 0, 0)", x.rule(10, 0, 0, 0), FULL);
        dueSame("", x, withSixRules(), 6);
    }

    private static void refusedDropChangesNothing() {
        says("14: a call that is refused changes nothing: drop");
        IntegerPlan x = withThreeRules();
        for (int k : FAR) {
            due("drop(" + k + ")", x.drop(k), BAD);
        }
        for (int k = 1; k <= 7; k++) {
            due("drop(" + -k + ")", x.drop(-k), BAD);
            due("drop(" + (2 + k) + ")", x.drop(2 + k), BAD);
        }
        dueSame("", x, withThreeRules(), 3);
        IntegerPlan empty = new IntegerPlan();
        empty.drop(0);
        empty.drop(-1);
        due("the first rule after a refused drop", empty.rule(1, 0, 0, 1), 0);
        due("drop(0) after it", empty.drop(0), 0);
    }

    private static void badQuestionsChangeNothing() {
        says("14: a call that is refused changes nothing: point, largest and needless");
        IntegerPlan x = withThreeRules();
        for (int n : outside(0, 2)) {
            due("point(" + n + ")", x.point(n), BAD);
            due("largest(" + n + ")", x.largest(n), BAD);
            due("needless(" + n + ")", x.needless(n), false);
        }
        dueSame("", x, withThreeRules(), 3);
    }

    private static void noneChangesNothing() {
        says("14: a call that is refused changes nothing: NONE");
        IntegerPlan x = withThreeRules();
        x.rule(0, 0, 0, -1);
        due("best()", x.best(), NONE);
        duePoint("", x, NONE, NONE, NONE);
        dueLargest("", x, NONE, NONE, NONE);
        dueGain("", x, NONE, NONE);
        due("solvable()", x.solvable(), false);
        due("drop(3)", x.drop(3), 3);
        dueSame("", x, withThreeRules(), 3);
    }

    // ---- What the tests share

    private static void says(String words) {
        sentence = words;
        sentences++;
    }

    private static void due(String what, long got, long want) {
        if (got != want) {
            wrong++;
            System.out.println("\"" + sentence + "\": " + what + " answered " + got + ", due is " + want);
        }
    }

    private static void due(String what, boolean got, boolean want) {
        due(what, got ? 1 : 0, want ? 1 : 0);
    }

    private static void duePoint(String what, IntegerPlan x, int x0, int x1, int x2) {
        due(what + " point(0)", x.point(0), x0);
        due(what + " point(1)", x.point(1), x1);
        due(what + " point(2)", x.point(2), x2);
    }

    private static void dueLargest(String what, IntegerPlan x, int x0, int x1, int x2) {
        due(what + " largest(0)", x.largest(0), x0);
        due(what + " largest(1)", x.largest(1), x1);
        due(what + " largest(2)", x.largest(2), x2);
    }

    private static void dueGain(String what, IntegerPlan x, int p, int q) {
        due(what + " gainTop()", x.gainTop(), p);
        due(what + " gainBottom()", x.gainBottom(), q);
    }

    /** Takes both objects apart, rule by rule, so that a difference in any part of the state comes to light. */
    private static void dueSame(String what, IntegerPlan x, IntegerPlan y, int rules) {
        dueSameAnswers(what, x, y);
        for (int left = rules - 1; left >= 0; left--) {
            due(what + ": drop(" + left + ")", x.drop(left), y.drop(left));
            dueSameAnswers(what + ": with " + left + " rules", x, y);
        }
        due(what + ": drop(0) without rules", x.drop(0), BAD);
        due(what + ": a rule after all", x.rule(5, 4, 3, 40), 0);
        x.drop(0);
        for (int i = 0; i < 3; i++) {
            int[] c = unit(i, 1);
            x.goal(c[0], c[1], c[2]);
            y.goal(c[0], c[1], c[2]);
            dueSameAnswers(what + ": variable " + i, x, y);
        }
    }

    private static void dueSameAnswers(String what, IntegerPlan x, IntegerPlan y) {
        due(what + ": best()", x.best(), y.best());
        due(what + ": fits()", x.fits(), y.fits());
        due(what + ": solvable()", x.solvable(), y.solvable());
        due(what + ": gainTop()", x.gainTop(), y.gainTop());
        due(what + ": gainBottom()", x.gainBottom(), y.gainBottom());
        for (int i = 0; i < 3; i++) {
            due(what + ": point(" + i + ")", x.point(i), y.point(i));
            due(what + ": largest(" + i + ")", x.largest(i), y.largest(i));
        }
        for (int k = 0; k < 6; k++) {
            due(what + ": needless(" + k + ")", x.needless(k), y.needless(k));
        }
    }

    /** The neighbours of a range, and numbers far off. */
    private static int[] outside(int least, int most) {
        List<Integer> numbers = new ArrayList<>(List.of(least - 1, most + 1, least - 2, most + 2));
        for (int far : FAR) {
            numbers.add(far);
        }
        return numbers.stream().mapToInt(Integer::intValue).toArray();
    }

    private static int[] unit(int i, int value) {
        int[] c = new int[3];
        c[i] = value;
        return c;
    }

    private static void dropAll(IntegerPlan x, int rules) {
        for (int k = 0; k < rules; k++) {
            x.drop(0);
        }
    }

    private static IntegerPlan with(int[] c, int limit) {
        IntegerPlan x = new IntegerPlan();
        x.rule(c[0], c[1], c[2], limit);
        return x;
    }

    private static IntegerPlan withTops(int top0, int top1, int top2) {
        IntegerPlan x = new IntegerPlan();
        x.top(0, top0);
        x.top(1, top1);
        x.top(2, top2);
        return x;
    }

    private static IntegerPlan withTops(int top0, int top1, int top2, int a0, int a1, int a2, int limit) {
        IntegerPlan x = withTops(top0, top1, top2);
        x.rule(a0, a1, a2, limit);
        return x;
    }

    private static IntegerPlan onlyPoint654() {
        IntegerPlan x = withTops(6, 5, 4);
        x.rule(-1, -1, -1, -15);
        return x;
    }

    private static IntegerPlan atLeast66(int a0, int limit) {
        IntegerPlan x = with(new int[] {a0, 0, 0}, limit);
        x.rule(0, -1, 0, -6);
        x.rule(0, 0, -1, -6);
        return x;
    }

    /** Rule k bounds the sum by 3 + k. */
    private static IntegerPlan withSixRules() {
        IntegerPlan x = new IntegerPlan();
        for (int k = 0; k < 6; k++) {
            x.rule(1, 1, 1, 3 + k);
        }
        return x;
    }

    private static IntegerPlan withThreeRules() {
        IntegerPlan x = withTops(5, 4, 3);
        x.goal(2, -3, 5);
        x.rule(7, 1, 2, 29);
        x.rule(-1, -2, 0, -3);
        x.rule(3, 5, -4, 17);
        return x;
    }

    private static IntegerPlan betweenWholePoints() {
        IntegerPlan x = new IntegerPlan();
        x.rule(2, 2, 2, 9);
        x.rule(-2, -2, -2, -9);
        return x;
    }

    private static IntegerPlan[] withoutRealPoints() {
        IntegerPlan parted = with(new int[] {9, 0, 0}, 10);
        parted.rule(-8, 0, 0, -9);
        return new IntegerPlan[] {with(new int[] {0, 0, 0}, -1), with(new int[] {9, 9, 9}, -99),
            with(new int[] {-1, -1, -1}, -19), withTops(0, 0, 0, -1, -1, -1, -1), parted};
    }

    private static IntegerPlan[] withoutWholePoints() {
        IntegerPlan[] real = withoutRealPoints();
        IntegerPlan[] all = new IntegerPlan[real.length + 1];
        System.arraycopy(real, 0, all, 0, real.length);
        all[real.length] = betweenWholePoints();
        return all;
    }
}
