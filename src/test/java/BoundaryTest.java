/**
 * The boundary cases that the document's sentences name, promise by promise: least and greatest
 * values, no point, one point alone, no condition, five conditions, numbers given again.
 */
public final class BoundaryTest extends Check {
    public static void main(String[] args) {
        newObject();
        everyCodeOfACondition();
        everyBound();
        leastAndGreatestCondition();
        everySetOfNumbers();
        numberGivenAgain();
        everyNumberGivenAgain();
        everyCodeOfAGoal();
        amountsAtTheirLimits();
        cornersOfAllAmounts();
        kindsAtTheirBound();
        conditionsOfZeros();
        missedByLittle();
        worths();
        firstOfManyBest();
        onePointAlone();
        tightConditions();
        tightAtTheFirstAlone();
        reachOfAllPoints();
        redundantAtTheLimits();
        redundantBesideOthers();
        redundantWithoutPoints();
        fiveConditions();
        wholeWorths();
        firstWholePoint();
        pointsButNoWholeOnes();
        countsOfWholes();
        end();
    }

    private static AmountPlanner with(int... numbersKindsAndBounds) {
        AmountPlanner x = new AmountPlanner();
        for (int at = 0; at < numbersKindsAndBounds.length; at += 3) {
            x.add(numbersKindsAndBounds[at], numbersKindsAndBounds[at + 1], numbersKindsAndBounds[at + 2]);
        }
        return x;
    }

    private static int only(int i, int n) {
        return three(i == 0 ? n : 0, i == 1 ? n : 0, i == 2 ? n : 0);
    }

    /** An object whose one point has 1 for amount i and 0 for the others. */
    private static AmountPlanner atOne(int i) {
        return with(only(0, 1), EQUAL, i == 0 ? 1 : 0, only(1, 1), EQUAL, i == 1 ? 1 : 0,
                only(2, 1), EQUAL, i == 2 ? 1 : 0);
    }

    /** The one point is 5879/1255, 5544/1255, 11026/1255: no object's bottoms are much greater. */
    private static AmountPlanner atLargeBottoms() {
        return with(three(7, 7, -6), EQUAL, 11, three(7, -6, 6), EQUAL, 59, three(-5, 7, 7), EQUAL, 69);
    }

    // Promise 1
    private static void newObject() {
        String amount = " 0/1 from 0/1 to 20/1";
        String want = "conditions 0, engine 0 true 0/1, engine 1 true 0/1, engine 2 true 0/1, amount 0" + amount
                + ", amount 1" + amount + ", amount 2" + amount
                + ", tight 0, redundant false false false false false, whole 0 at 0 of 9261";
        String got = shown(new AmountPlanner());
        if (!got.equals(want)) {
            report("a new object shows\n  " + got + "\ndue is\n  " + want);
        }
    }

    // Promise 2: numbers from 0 to 3374, each meaning three numbers from -7 to 7.
    private static void everyCodeOfACondition() {
        for (int n2 = -7; n2 <= 7; n2++) {
            for (int n1 = -7; n1 <= 7; n1++) {
                for (int n0 = -7; n0 <= 7; n0++) {
                    int numbers = three(n0, n1, n2);
                    conditionGives(numbers, 0, n0);
                    conditionGives(numbers, 1, n1);
                    conditionGives(numbers, 2, n2);
                }
            }
        }
    }

    private static void conditionGives(int numbers, int i, int n) {
        AmountPlanner x = atOne(i);
        due("add(" + numbers + ", 1, " + n + ")", x.add(numbers, EQUAL, n), 3);
        due("numbers " + numbers + " of amount " + i + ": tight()", x.tight(), 15);
        x.remove(3);
        x.add(numbers, AT_LEAST, n + 1);
        due("numbers " + numbers + " of amount " + i + " not above " + n, x.feasible(0), false);
    }

    // Promise 2: b from -99 to 99, for each kind.
    private static void everyBound() {
        for (int b = -99; b <= 99; b++) {
            int bottom = b % 7 == 0 ? 1 : 7;
            int top = b * bottom / 7;
            AmountPlanner atMost = with(only(0, 7), AT_MOST, b);
            AmountPlanner equal = with(only(1, 7), EQUAL, b);
            AmountPlanner atLeast = with(only(2, 7), AT_LEAST, b);
            String when = "of 7 and b " + b;
            if (b < 0) {
                dueFeasible("at most, " + when, atMost, false);
                dueFeasible("equal, " + when, equal, false);
                dueReach("at least, " + when, atLeast, 2, 0, 1, 20, 1);
            } else {
                dueReach("at most, " + when, atMost, 0, 0, 1, top, bottom);
                dueReach("equal, " + when, equal, 1, top, bottom, top, bottom);
                dueReach("at least, " + when, atLeast, 2, top, bottom, 20, 1);
            }
        }
    }

    // Promise 2: each argument at its least and greatest, all together.
    private static void leastAndGreatestCondition() {
        AmountPlanner x = new AmountPlanner();
        x.goal(three(1, 1, 1));
        due("add(0, 0, -99)", x.add(0, 0, -99), 0);
        dueBest("7 of each at least 99", x, 60, 1);
        x.goal(three(-1, -1, -1));
        dueBest("7 of each at least 99", x, -99, 7);
        due("add(3374, 0, 99)", x.add(3374, 0, 99), 1);
        x.goal(three(1, 1, 1));
        dueBest("7 of each at least and at most 99", x, 99, 7);
        due("add(3374, 2, 99)", x.add(3374, 2, 99), 2);
        due("add(0, 2, -99)", x.add(0, 2, -99), 3);
        due("7 of each four times 99: tight()", x.tight(), 15);
        due("add(0, 2, 99)", x.add(0, 2, 99), 4);
        dueNoPoint("-7 of each at least 99", x);
        x.remove(4);
        due("add(3374, 0, -99)", x.add(3374, 0, -99), 4);
        dueNoPoint("7 of each at most -99", x);
        due("add(0, 0, 99) when full", x.add(0, 0, 99), FULL);
        x.remove(4);
        due("add(0, 0, 99)", x.add(0, 0, 99), 4);
        dueBest("-7 of each at most 99", x, 99, 7);
    }

    private static AmountPlanner withSet(int bits) {
        AmountPlanner x = new AmountPlanner();
        for (int k = 0; k < 5; k++) {
            x.add(only(0, 1), AT_MOST, 3 + k);
        }
        for (int k = 4; k >= 0; k--) {
            if ((bits >> k & 1) == 0) {
                x.remove(k);
            }
        }
        return x;
    }

    // Promises 2, 3 and 4, from no condition to five.
    private static void everySetOfNumbers() {
        for (int bits = 0; bits < 32; bits++) {
            int least = Integer.numberOfTrailingZeros(~bits);
            String when = "conditions " + bits;
            AmountPlanner x = withSet(bits);
            due(when + ": conditions()", x.conditions(), bits);
            int most = bits == 0 ? 20 : 3 + Integer.numberOfTrailingZeros(bits);
            dueReach(when, x, 0, 0, 1, most, 1);
            due(when + ": add", x.add(only(0, 1), AT_MOST, 2), least == 5 ? FULL : least);
            due(when + ": conditions() after add", x.conditions(), bits | (1 << least) & 31);
            dueReach(when + " after add", x, 0, 0, 1, least == 5 ? most : 2, 1);
            for (int k = 0; k < 5; k++) {
                AmountPlanner y = withSet(bits);
                boolean there = (bits >> k & 1) == 1;
                due(when + ": remove(" + k + ")", y.remove(k), there);
                due(when + ": conditions() after remove(" + k + ")", y.conditions(), bits & ~(1 << k));
                due(when + ": remove(" + k + ") again", y.remove(k), false);
                due(when + ": redundant(" + k + ") when removed", y.redundant(k), false);
                due(when + ": conditions() in the end", y.conditions(), bits & ~(1 << k));
            }
        }
    }

    // Promises 2 and 3: nothing of the removed condition is left.
    private static void numberGivenAgain() {
        AmountPlanner x = new AmountPlanner();
        due("first add", x.add(three(7, 6, 5), EQUAL, 42), 0);
        due("remove(0)", x.remove(0), true);
        due("removed: tight()", x.tight(), 0);
        due("removed: wholes()", x.wholes(), 9261);
        due("number 0 again", x.add(only(1, 1), AT_LEAST, 5), 0);
        dueReach("at least 5 in place of equal", x, 0, 0, 1, 20, 1);
        dueReach("at least 5 in place of equal", x, 1, 5, 1, 20, 1);
        dueReach("at least 5 in place of equal", x, 2, 0, 1, 20, 1);
        due("at least 5 in place of equal: wholes()", x.wholes(), 21 * 16 * 21);
        x.remove(0);
        due("number 0 a third time", x.add(only(1, 1), AT_MOST, -5), 0);
        dueNoPoint("at most -5", x);
        x.remove(0);
        due("number 0 a fourth time", x.add(only(1, -1), AT_MOST, -5), 0);
        dueReach("at least 5 again", x, 1, 5, 1, 20, 1);
        due("at least 5 again: conditions()", x.conditions(), 1);
    }

    private static void everyNumberGivenAgain() {
        for (int k = 0; k < 5; k++) {
            AmountPlanner x = new AmountPlanner();
            for (int j = 0; j < 5; j++) {
                x.add(only(0, 1), j == k ? EQUAL : AT_LEAST, j == k ? 9 : 4);
            }
            dueReach("condition " + k + " is 9", x, 0, 9, 1, 9, 1);
            x.remove(k);
            dueReach("condition " + k + " removed", x, 0, 4, 1, 20, 1);
            due("number " + k + " again", x.add(only(2, 2), AT_MOST, 3), k);
            dueReach("condition " + k + " again", x, 0, 4, 1, 20, 1);
            dueReach("condition " + k + " again", x, 2, 0, 1, 3, 2);
            due("condition " + k + " again: redundant", x.redundant(k), false);
            due("condition " + k + " again: tight()", x.tight(), 31 & ~(1 << k));
            due("condition " + k + " again: full", x.add(only(2, 2), AT_MOST, 3), FULL);
        }
    }

    // Promise 5: numbers from 0 to 3374, each meaning three numbers from -7 to 7.
    private static void everyCodeOfAGoal() {
        for (int n2 = -7; n2 <= 7; n2++) {
            for (int n1 = -7; n1 <= 7; n1++) {
                AmountPlanner[] x = {atOne(0), atOne(1), atOne(2)};
                for (int n0 = -7; n0 <= 7; n0++) {
                    int numbers = three(n0, n1, n2);
                    int[] n = {n0, n1, n2};
                    for (int i = 0; i < 3; i++) {
                        due("goal(" + numbers + ")", x[i].goal(numbers), true);
                        due("goal(" + numbers + ") of amount " + i + ": bestTop(0)", x[i].bestTop(0), n[i]);
                        due("goal(" + numbers + ") of amount " + i + ": bestBottom(0)", x[i].bestBottom(0), 1);
                    }
                }
            }
        }
    }

    // Promises 6 to 13: amounts from 0 to 20, and nothing beyond.
    private static void amountsAtTheirLimits() {
        for (int i = 0; i < 3; i++) {
            String when = "amount " + i;
            dueReach(when + " at most 0", with(only(i, 1), AT_MOST, 0), i, 0, 1, 0, 1);
            dueReach(when + " at most 20", with(only(i, 1), AT_MOST, 20), i, 0, 1, 20, 1);
            dueReach(when + " at most 21", with(only(i, 1), AT_MOST, 21), i, 0, 1, 20, 1);
            dueReach(when + " at least 0", with(only(i, 1), AT_LEAST, 0), i, 0, 1, 20, 1);
            dueReach(when + " at least -1", with(only(i, 1), AT_LEAST, -1), i, 0, 1, 20, 1);
            dueReach(when + " at least 20", with(only(i, 1), AT_LEAST, 20), i, 20, 1, 20, 1);
            dueReach(when + " is 0", with(only(i, -7), EQUAL, 0), i, 0, 1, 0, 1);
            dueReach(when + " is 20", with(only(i, -4), EQUAL, -80), i, 20, 1, 20, 1);
            dueReach(when + " is 1/7", with(only(i, 7), EQUAL, 1), i, 1, 7, 1, 7);
            dueReach(when + " is 79/4", with(only(i, 4), EQUAL, 79), i, 79, 4, 79, 4);
            dueNoPoint(when + " at most -1", with(only(i, 1), AT_MOST, -1));
            dueNoPoint(when + " at most -1/7", with(only(i, 7), AT_MOST, -1));
            dueNoPoint(when + " at least 21", with(only(i, 1), AT_LEAST, 21));
            dueNoPoint(when + " at least 81/4", with(only(i, 4), AT_LEAST, 81));
            dueNoPoint(when + " is -1/7", with(only(i, -7), EQUAL, 1));
            dueNoPoint(when + " is 81/4", with(only(i, -4), EQUAL, -81));
        }
    }

    // Promises 6 to 17: the two places where all amounts are at a limit.
    private static void cornersOfAllAmounts() {
        AmountPlanner far = with(three(1, 1, 1), AT_LEAST, 60);
        far.goal(0);
        dueFeasible("the far corner", far, true);
        dueBest("the far corner", far, -420, 1);
        duePoint("the far corner", far, 20, 1, 20, 1, 20, 1);
        dueWhole("the far corner", far, -420, 9260, 1);
        far.goal(3374);
        dueBest("the far corner", far, 420, 1);
        dueWhole("the far corner", far, 420, 9260, 1);
        AmountPlanner near = with(three(-1, -1, -1), AT_LEAST, 0);
        near.goal(three(7, 7, 7));
        dueFeasible("the near corner", near, true);
        dueBest("the near corner", near, 0, 1);
        duePoint("the near corner", near, 0, 1, 0, 1, 0, 1);
        dueWhole("the near corner", near, 0, 0, 1);
        dueNoPoint("beyond the far corner", with(three(1, 1, 1), AT_LEAST, 61));
        dueNoPoint("before the near corner", with(three(-7, -7, -7), AT_LEAST, 1));
    }

    // Terms: at most, equal to, at least.
    private static void kindsAtTheirBound() {
        for (int i = 0; i < 3; i++) {
            for (int b = -1; b <= 3; b++) {
                for (int kind = 0; kind <= 2; kind++) {
                    AmountPlanner x = atOne(i);
                    x.add(three(1, 1, 1), kind, b);
                    boolean want = kind == AT_MOST ? 1 <= b : kind == EQUAL ? 1 == b : 1 >= b;
                    dueFeasible("1 against " + b + " by kind " + kind, x, want);
                    due("1 against " + b + " by kind " + kind + ": tight()", x.tight(),
                            !want ? NONE : b == 1 ? 15 : 7);
                    due("1 against " + b + " by kind " + kind + ": wholes()", x.wholes(), want ? 1 : 0);
                }
            }
        }
    }

    private static void conditionsOfZeros() {
        for (int b : new int[] {-99, -1, 0, 1, 99}) {
            for (int kind = 0; kind <= 2; kind++) {
                AmountPlanner x = with(three(0, 0, 0), kind, b);
                String when = "0 against " + b + " by kind " + kind;
                if (kind == AT_MOST ? 0 <= b : kind == EQUAL ? 0 == b : 0 >= b) {
                    dueReach(when, x, 1, 0, 1, 20, 1);
                    due(when + ": tight()", x.tight(), b == 0 ? 1 : 0);
                    due(when + ": redundant(0)", x.redundant(0), true);
                    dueWhole(when, x, 0, 0, 9261);
                } else {
                    dueNoPoint(when, x);
                    due(when + ": redundant(0)", x.redundant(0), false);
                }
            }
        }
    }

    // Promises 6 to 11: 2 x0 + x1 - x2 is 5 + 1/1255 at the one point.
    private static void missedByLittle() {
        AmountPlanner x = atLargeBottoms();
        x.goal(three(2, 1, -1));
        dueBest("large bottoms", x, 6276, 1255);
        duePoint("large bottoms", x, 5879, 1255, 5544, 1255, 11026, 1255);
        due("large bottoms: tight()", x.tight(), 7);
        dueWhole("large bottoms", x, NONE, NONE, 0);
        x.add(three(2, 1, -1), AT_LEAST, 5);
        dueBest("at least 5", x, 6276, 1255);
        due("at least 5: tight()", x.tight(), 7);
        due("at least 5: redundant(3)", x.redundant(3), true);
        x.remove(3);
        x.add(three(2, 1, -1), AT_MOST, 5);
        dueNoPoint("at most 5", x);
        due("at most 5: redundant(3)", x.redundant(3), false);
        x.remove(3);
        x.add(three(2, 1, -1), EQUAL, 5);
        dueNoPoint("equal to 5", x);
        x.remove(3);
        x.goal(three(-2, -1, 1));
        dueBest("large bottoms below 0", x, -6276, 1255);
    }

    // Promises 7 and 8: a fraction has no common divisor, and its bottom is at least 1.
    private static void worths() {
        AmountPlanner x = with(only(0, 2), EQUAL, 1, only(1, 6), EQUAL, 3, only(2, 7), EQUAL, 1);
        int[][] cases = {{0, 0, 0, 0, 1}, {1, -1, 0, 0, 1}, {1, 1, 0, 1, 1}, {-1, -1, 0, -1, 1}, {1, 0, 0, 1, 2},
            {-1, 0, 0, -1, 2}, {0, 0, 7, 1, 1}, {0, 0, -7, -1, 1}, {0, 0, 1, 1, 7}, {0, 1, 1, 9, 14},
            {0, -1, -1, -9, 14}, {7, 7, 7, 8, 1}, {-7, -7, -7, -8, 1}, {7, -7, 2, 2, 7}};
        for (int[] c : cases) {
            x.goal(three(c[0], c[1], c[2]));
            dueBest("goal " + c[0] + " " + c[1] + " " + c[2] + " at 1/2, 1/2, 1/7", x, c[3], c[4]);
        }
        AmountPlanner y = new AmountPlanner();
        y.goal(3374);
        dueBest("the greatest worth of all", y, 420, 1);
        y.goal(0);
        dueBest("the least that has to be", y, 0, 1);
    }

    // Promises 9 and 10: "the least x0 of them, of several such the one with the least x1, and so on"
    private static void firstOfManyBest() {
        AmountPlanner x = new AmountPlanner();
        int[][] cases = {{0, 0, 0, 0, 0, 0}, {1, 0, 0, 20, 0, 0}, {0, 1, 0, 0, 20, 0}, {0, 0, 1, 0, 0, 20},
            {1, 1, 0, 20, 20, 0}, {1, 0, 1, 20, 0, 20}, {0, 1, 1, 0, 20, 20}, {-1, 0, 1, 0, 0, 20}};
        for (int[] c : cases) {
            x.goal(three(c[0], c[1], c[2]));
            duePoint("goal " + c[0] + " " + c[1] + " " + c[2], x, c[3], 1, c[4], 1, c[5], 1);
        }
        AmountPlanner y = with(three(1, 1, 1), EQUAL, 30);
        y.goal(three(1, 1, 1));
        duePoint("all of a sum", y, 0, 1, 10, 1, 20, 1);
        y.goal(three(0, 1, 1));
        duePoint("x1 and x2 of a sum", y, 0, 1, 10, 1, 20, 1);
        y.goal(three(1, 1, 0));
        duePoint("x0 and x1 of a sum", y, 10, 1, 20, 1, 0, 1);
        y.goal(three(1, 0, 1));
        duePoint("x0 and x2 of a sum", y, 10, 1, 0, 1, 20, 1);
        y.goal(three(1, 0, 0));
        duePoint("x0 of a sum", y, 20, 1, 0, 1, 10, 1);
        AmountPlanner z = with(three(1, 1, 0), AT_LEAST, 7, three(0, 7, 7), EQUAL, 99);
        duePoint("no goal, least x0 first", z, 0, 1, 7, 1, 50, 7);
        for (int i = 0; i < 3; i++) {
            AmountPlanner near = with(only(i, 1), AT_MOST, 6, only(i, 1), AT_LEAST, 5);
            due("5 is before 6: pointTop(" + i + ")", near.pointTop(i), 5);
        }
        AmountPlanner last = with(only(0, 2), AT_LEAST, 5, only(1, 3), AT_LEAST, 10, three(1, 1, 1), AT_MOST, 50,
                three(1, 2, 5), AT_MOST, 90);
        duePoint("bottoms other than those of the last planes", last, 5, 2, 10, 3, 0, 1);
    }

    private static void onePointAlone() {
        AmountPlanner x = with(only(0, 2), AT_LEAST, 5, only(1, 3), EQUAL, 10, only(2, 1), EQUAL, 20, only(0, 2),
                AT_MOST, 5);
        int[] tops = {5, 10, 20};
        int[] bottoms = {2, 3, 1};
        for (int goal = 0; goal <= 3374; goal += 482) {
            x.goal(goal);
            dueFeasible("one point", x, true);
            duePoint("one point", x, 5, 2, 10, 3, 20, 1);
            due("one point: tight()", x.tight(), 15);
            for (int i = 0; i < 3; i++) {
                dueReach("one point", x, i, tops[i], bottoms[i], tops[i], bottoms[i]);
            }
            dueWhole("one point", x, NONE, NONE, 0);
        }
        AmountPlanner y = with(only(0, 1), EQUAL, 20, three(0, 1, 1), AT_MOST, 0);
        y.goal(three(-7, 7, 7));
        dueBest("one whole point", y, -140, 1);
        dueWhole("one whole point", y, -140, 20, 1);
        y.add(three(1, 1, 1), EQUAL, 20);
        due("one whole point: redundant(2)", y.redundant(2), true);
        dueWhole("one whole point", y, -140, 20, 1);
    }

    // Promise 11: from no condition to all five, and each alone.
    private static void tightConditions() {
        AmountPlanner all = new AmountPlanner();
        all.goal(three(1, 1, 1));
        due("no condition: tight()", all.tight(), 0);
        all.add(three(1, 1, 1), AT_MOST, 60);
        all.add(only(0, 1), EQUAL, 20);
        all.add(three(0, -1, -1), AT_LEAST, -40);
        all.add(three(3, 1, 0), AT_MOST, 80);
        all.add(three(1, -1, 0), EQUAL, 0);
        due("all five: tight()", all.tight(), 31);
        for (int k = 0; k < 5; k++) {
            AmountPlanner x = new AmountPlanner();
            x.goal(three(1, 0, 0));
            for (int j = 0; j < 5; j++) {
                x.add(only(0, 7), AT_MOST, j == k ? 98 : 99);
            }
            due("the strongest of five: tight()", x.tight(), 1 << k);
            x.remove(k);
            due("the four others: tight()", x.tight(), 31 & ~(1 << k));
            x.goal(three(-1, 0, 0));
            due("none of four: tight()", x.tight(), 0);
        }
    }

    private static void tightAtTheFirstAlone() {
        AmountPlanner x = with(only(0, 1), AT_MOST, 6, only(0, 1), AT_LEAST, 2, only(1, 1), AT_MOST, 6, only(1, 1),
                AT_LEAST, 2);
        x.goal(three(0, 0, 1));
        due("tight() at the least x0 and x1", x.tight(), 10);
        x.goal(three(1, 0, 0));
        due("tight() at the greatest x0", x.tight(), 9);
        x.goal(three(1, 1, 0));
        due("tight() at the greatest of both", x.tight(), 5);
        x.add(three(1, 1, 0), AT_MOST, 12);
        due("tight() where three meet", x.tight(), 21);
    }

    // Promises 12 and 13: of all points, not of the best ones.
    private static void reachOfAllPoints() {
        AmountPlanner x = with(three(3, 2, 1), AT_MOST, 9, three(1, 1, 1), AT_LEAST, 2);
        int[] goals = {three(0, 0, 0), 0, 3374, three(7, -7, 7)};
        for (int goal : goals) {
            x.goal(goal);
            dueReach("goal " + goal, x, 0, 0, 1, 3, 1);
            dueReach("goal " + goal, x, 1, 0, 1, 9, 2);
            dueReach("goal " + goal, x, 2, 0, 1, 9, 1);
        }
        x.add(three(0, 7, 0), AT_LEAST, 29);
        dueReach("x1 at least 29/7", x, 0, 0, 1, 5, 21);
        dueReach("x1 at least 29/7", x, 1, 29, 7, 9, 2);
        dueReach("x1 at least 29/7", x, 2, 0, 1, 5, 7);
        AmountPlanner large = atLargeBottoms();
        dueReach("large bottoms", large, 0, 5879, 1255, 5879, 1255);
        dueReach("large bottoms", large, 1, 5544, 1255, 5544, 1255);
        dueReach("large bottoms", large, 2, 11026, 1255, 11026, 1255);
    }

    private static void dueRedundantAlone(int numbers, int kind, int b, boolean want) {
        AmountPlanner x = with(numbers, kind, b);
        due("alone, " + numbers + " by kind " + kind + " and " + b + ": redundant(0)", x.redundant(0), want);
    }

    // Promise 14: "all amounts from 0 to 20"
    private static void redundantAtTheLimits() {
        for (int i = 0; i < 3; i++) {
            dueRedundantAlone(only(i, 1), AT_MOST, 20, true);
            dueRedundantAlone(only(i, 1), AT_MOST, 19, false);
            dueRedundantAlone(only(i, 4), AT_MOST, 79, false);
            dueRedundantAlone(only(i, 1), AT_MOST, 21, true);
            dueRedundantAlone(only(i, 1), AT_LEAST, 0, true);
            dueRedundantAlone(only(i, 1), AT_LEAST, 1, false);
            dueRedundantAlone(only(i, 7), AT_LEAST, 1, false);
            dueRedundantAlone(only(i, 1), AT_LEAST, -1, true);
            dueRedundantAlone(only(i, -1), AT_LEAST, -20, true);
            dueRedundantAlone(only(i, -1), AT_LEAST, -19, false);
            dueRedundantAlone(only(i, -1), AT_MOST, 0, true);
            dueRedundantAlone(only(i, -1), AT_MOST, -1, false);
            dueRedundantAlone(only(i, 1), EQUAL, 0, false);
            dueRedundantAlone(only(i, 1), EQUAL, 20, false);
            dueRedundantAlone(only(i, 1), EQUAL, 99, false);
        }
        dueRedundantAlone(three(1, 1, 1), AT_MOST, 60, true);
        dueRedundantAlone(three(1, 1, 1), AT_MOST, 59, false);
        dueRedundantAlone(three(1, -1, 2), AT_LEAST, -20, true);
        dueRedundantAlone(three(1, -1, 2), AT_LEAST, -19, false);
        dueRedundantAlone(three(1, -1, 2), AT_MOST, 60, true);
        dueRedundantAlone(three(1, -1, 2), AT_MOST, 59, false);
    }

    // Promise 14: "that meet all other conditions meet condition k too"
    private static void redundantBesideOthers() {
        AmountPlanner x = with(only(0, 3), AT_MOST, 10, only(0, 6), AT_MOST, 20);
        due("10/3 beside 20/6: redundant(0)", x.redundant(0), true);
        due("20/6 beside 10/3: redundant(1)", x.redundant(1), true);
        x.remove(1);
        x.add(only(0, 7), AT_MOST, 23);
        due("10/3 beside 23/7: redundant(0)", x.redundant(0), true);
        due("23/7 beside 10/3: redundant(1)", x.redundant(1), false);
        x.remove(1);
        x.add(only(0, 7), AT_MOST, 24);
        due("10/3 beside 24/7: redundant(0)", x.redundant(0), false);
        due("24/7 beside 10/3: redundant(1)", x.redundant(1), true);
        AmountPlanner equal = with(only(1, 1), AT_LEAST, 5, only(1, 1), AT_MOST, 5, only(1, 2), EQUAL, 10);
        due("equal between: redundant(2)", equal.redundant(2), true);
        equal.remove(0);
        due("equal below: redundant(2)", equal.redundant(2), false);
        due("at most beside equal: redundant(1)", equal.redundant(1), true);
        equal.add(only(1, 1), AT_LEAST, 5);
        equal.remove(1);
        due("equal above: redundant(2)", equal.redundant(2), false);
        due("at least beside equal: redundant(0)", equal.redundant(0), true);
        AmountPlanner sum = with(only(0, 7), AT_MOST, 99, only(1, 7), AT_MOST, 99, three(7, 7, 0), AT_MOST, 99);
        due("the sum within its parts: redundant(2)", sum.redundant(2), false);
        due("a part within the sum: redundant(0)", sum.redundant(0), true);
        due("a part within the sum: redundant(1)", sum.redundant(1), true);
        due("redundant(3) when there is none", sum.redundant(3), false);
    }

    // Promise 14: where no amounts meet the others, all that do meet this one too.
    private static void redundantWithoutPoints() {
        AmountPlanner x = with(only(0, 1), AT_LEAST, 21, only(0, 1), AT_MOST, 5);
        due("at least 21 beside at most 5: redundant(0)", x.redundant(0), false);
        due("at most 5 beside at least 21: redundant(1)", x.redundant(1), true);
        x.add(three(0, 0, 0), EQUAL, 1);
        for (int k = 0; k < 3; k++) {
            due("beside one that nothing meets: redundant(" + k + ")", x.redundant(k), true);
        }
        due("nothing meets them: redundant(3)", x.redundant(3), false);
        dueNoPoint("nothing meets them", x);
        x.remove(2);
        x.remove(0);
        due("at most 5 alone: redundant(1)", x.redundant(1), false);
        x.add(only(0, 1), AT_LEAST, 6);
        due("each keeps the other out: redundant(0)", x.redundant(0), false);
        due("each keeps the other out: redundant(1)", x.redundant(1), false);
    }

    private static void fiveConditions() {
        AmountPlanner x = new AmountPlanner();
        for (int k = 0; k < 5; k++) {
            due("the same five times: add", x.add(three(2, 3, 4), EQUAL, 24), k);
        }
        x.goal(three(0, 1, 0));
        dueBest("the same five times", x, 8, 1);
        due("the same five times: tight()", x.tight(), 31);
        for (int k = 0; k < 5; k++) {
            due("the same five times: redundant(" + k + ")", x.redundant(k), true);
        }
        dueWhole("the same five times", x, 8, 21 * 8, 19);
        AmountPlanner y = with(three(1, 0, 1), AT_LEAST, 3, three(-1, 1, 0), AT_LEAST, 3, three(0, -1, 1), AT_LEAST,
                3, three(1, 1, 1), AT_MOST, 30, three(0, 0, 2), AT_MOST, 29);
        dueReach("five of all kinds of planes", y, 0, 0, 1, 7, 1);
        dueReach("five of all kinds of planes", y, 1, 3, 1, 23, 2);
        dueReach("five of all kinds of planes", y, 2, 6, 1, 29, 2);
        y.remove(4);
        y.add(three(0, 0, 1), AT_MOST, 5);
        dueNoPoint("five without a point", y);
        due("five without a point: conditions()", y.conditions(), 31);
    }

    // Promise 15
    private static void wholeWorths() {
        AmountPlanner x = new AmountPlanner();
        x.goal(3374);
        due("the greatest whole()", x.whole(), 420);
        x.goal(0);
        due("the least that has to be, whole()", x.whole(), 0);
        x.add(three(1, 1, 1), AT_LEAST, 60);
        due("the least whole()", x.whole(), -420);
        AmountPlanner y = with(only(0, 7), AT_MOST, 6, only(1, 7), AT_LEAST, 99, only(1, 6), AT_MOST, 99);
        y.goal(three(7, 0, 0));
        due("x0 below 1: whole()", y.whole(), 0);
        y.goal(three(0, 1, 0));
        due("x1 from 99/7 to 99/6: whole()", y.whole(), 16);
        y.goal(three(0, -1, 0));
        due("x1 from 99/7 to 99/6: whole()", y.whole(), -15);
    }

    // Promise 16: "(the least x0, then x1, then x2)"
    private static void firstWholePoint() {
        AmountPlanner x = new AmountPlanner();
        int[][] cases = {{0, 0, 0, 0}, {1, 0, 0, 20}, {0, 1, 0, 420}, {0, 0, 1, 8820}, {1, 1, 1, 9260},
            {1, 1, 0, 440}, {1, 0, 1, 8840}, {0, 1, 1, 9240}};
        for (int[] c : cases) {
            x.goal(three(c[0], c[1], c[2]));
            due("goal " + c[0] + " " + c[1] + " " + c[2] + ": wholePoint()", x.wholePoint(), c[3]);
        }
        x.add(three(2, 2, 2), AT_MOST, 41);
        x.goal(three(1, 1, 1));
        due("the least x0, then x1: wholePoint()", x.wholePoint(), 441 * 20);
        x.add(only(2, 2), AT_MOST, 11);
        due("the least x0, then x1, x2 up to 5: wholePoint()", x.wholePoint(), 21 * 15 + 441 * 5);
        x.add(three(0, 1, 0), AT_MOST, 4);
        due("the least x0, x1 up to 4: wholePoint()", x.wholePoint(), 11 + 21 * 4 + 441 * 5);
        x.goal(three(1, 0, 0));
        due("x0 alone: wholePoint()", x.wholePoint(), 20);
        x.add(three(1, 2, 2), AT_LEAST, 21);
        due("x0 alone, x2 before x1: wholePoint()", x.wholePoint(), 19 + 441);
    }

    // Promises 15 to 17: "NONE when there is no such point"
    private static void pointsButNoWholeOnes() {
        AmountPlanner x = with(three(2, 4, 6), EQUAL, 33);
        dueFeasible("an odd sum of even ones", x, true);
        dueWhole("an odd sum of even ones", x, NONE, NONE, 0);
        AmountPlanner y = with(only(2, 7), AT_LEAST, 15, only(2, 7), AT_MOST, 20);
        dueReach("from 15/7 to 20/7", y, 2, 15, 7, 20, 7);
        dueWhole("from 15/7 to 20/7", y, NONE, NONE, 0);
        y.remove(1);
        y.add(only(2, 7), AT_MOST, 21);
        dueWhole("from 15/7 to 21/7", y, 0, 441 * 3, 441);
        y.remove(0);
        y.add(only(2, 7), AT_LEAST, 21);
        dueWhole("from 21/7 to 21/7", y, 0, 441 * 3, 441);
        y.remove(1);
        y.add(only(2, 7), AT_MOST, 20);
        dueNoPoint("from 21/7 to 20/7", y);
    }

    // Promise 17: from 0 to 9261, whatever the goal.
    private static void countsOfWholes() {
        AmountPlanner x = new AmountPlanner();
        int[] goals = {0, 1687, 3374};
        for (int goal : goals) {
            x.goal(goal);
            due("no condition: wholes()", x.wholes(), 9261);
        }
        due("all but the far corner: wholes()", with(three(1, 1, 1), AT_MOST, 59).wholes(), 9260);
        due("all but the near corner: wholes()", with(three(1, 1, 1), AT_LEAST, 1).wholes(), 9260);
        due("the far corner: wholes()", with(three(1, 1, 1), AT_LEAST, 60).wholes(), 1);
        due("the near corner: wholes()", with(three(1, 1, 1), EQUAL, 0).wholes(), 1);
        due("beyond: wholes()", with(three(1, 1, 1), EQUAL, 61).wholes(), 0);
        for (int i = 0; i < 3; i++) {
            due("a face: wholes()", with(only(i, 7), AT_MOST, 6).wholes(), 441);
            due("half: wholes()", with(only(i, 2), AT_LEAST, 19).wholes(), 441 * 11);
        }
    }
}
