/** Each promise of the document by hand: ordinary inputs, the edges that it names, wrong inputs. */
public final class PromiseTest extends Check {
    private static final int[] WRONG_ENGINES = {-1, 3, Integer.MIN_VALUE, Integer.MAX_VALUE};
    private static final int[] WRONG_AMOUNTS = {-1, 3, 5, Integer.MIN_VALUE, Integer.MAX_VALUE};

    public static void main(String[] args) {
        newObject();
        add();
        addNumbers();
        remove();
        conditions();
        goal();
        feasible();
        best();
        point();
        tight();
        reach();
        redundant();
        redundantOfEqual();
        whole();
        wholePoint();
        wholes();
        questionsChangeNothing();
        objectsAreApart();
        end();
    }

    private static AmountPlanner withoutPoint() {
        AmountPlanner x = new AmountPlanner();
        x.add(three(1, 0, 0), AT_LEAST, 21);
        return x;
    }

    // Promise 1
    private static void newObject() {
        AmountPlanner x = new AmountPlanner();
        due("new: conditions()", x.conditions(), 0);
        due("new: feasible(0)", x.feasible(0), true);
        dueBest("new", x, 0, 1);
        duePoint("new", x, 0, 1, 0, 1, 0, 1);
        due("new: tight()", x.tight(), 0);
        for (int i = 0; i < 3; i++) {
            dueReach("new", x, i, 0, 1, 20, 1);
        }
        for (int k = 0; k < 5; k++) {
            due("new: redundant(" + k + ")", x.redundant(k), false);
            due("new: remove(" + k + ")", x.remove(k), false);
        }
        due("new: whole()", x.whole(), 0);
        due("new: wholePoint()", x.wholePoint(), 0);
        due("new: wholes()", x.wholes(), 9261);
        due("BAD", AmountPlanner.BAD, BAD);
        due("FULL", AmountPlanner.FULL, FULL);
        due("NONE", AmountPlanner.NONE, NONE);
    }

    // Promise 2
    private static void add() {
        AmountPlanner x = new AmountPlanner();
        wrongAdds("empty", x);
        due("after wrong adds: conditions()", x.conditions(), 0);
        due("add least of all", x.add(0, AT_MOST, -99), 0);
        due("add greatest of all", x.add(3374, AT_LEAST, 99), 1);
        for (int k = 2; k < 5; k++) {
            due("add number " + k, x.add(three(0, 0, 0), EQUAL, 0), k);
        }
        due("add a sixth", x.add(three(0, 0, 0), EQUAL, 0), FULL);
        wrongAdds("full", x);
        x.remove(3);
        x.remove(1);
        due("add after remove(3), remove(1)", x.add(three(0, 0, 0), AT_MOST, 0), 1);
        due("add after that", x.add(three(0, 0, 0), AT_MOST, 0), 3);
        due("add when full again", x.add(three(0, 0, 0), AT_MOST, 0), FULL);
        due("full: conditions()", x.conditions(), 31);
    }

    private static void wrongAdds(String when, AmountPlanner x) {
        int[] numbers = {-1, 3375, Integer.MIN_VALUE, Integer.MAX_VALUE};
        int[] kinds = {-1, 3, Integer.MIN_VALUE, Integer.MAX_VALUE};
        int[] bs = {-100, 100, Integer.MIN_VALUE, Integer.MAX_VALUE};
        for (int i = 0; i < 4; i++) {
            due(when + ": add(" + numbers[i] + ", 0, 0)", x.add(numbers[i], 0, 0), BAD);
            due(when + ": add(0, " + kinds[i] + ", 0)", x.add(0, kinds[i], 0), BAD);
            due(when + ": add(0, 0, " + bs[i] + ")", x.add(0, 0, bs[i]), BAD);
        }
    }

    private static void addNumbers() {
        for (int n = -7; n <= 7; n++) {
            if (n != 0) {
                int b = n > 0 ? 10 : -10;
                int size = n > 0 ? n : -n;
                for (int i = 0; i < 3; i++) {
                    AmountPlanner x = new AmountPlanner();
                    x.add(three(i == 0 ? n : 0, i == 1 ? n : 0, i == 2 ? n : 0), EQUAL, b);
                    int common = size == 4 || size == 6 ? 2 : size == 5 ? 5 : size == 2 ? 2 : 1;
                    dueReach(n + " of amount " + i, x, i,
                            10 / common, size / common, 10 / common, size / common);
                    dueReach(n + " of amount " + i, x, (i + 1) % 3, 0, 1, 20, 1);
                }
            }
        }
    }

    // Promise 3
    private static void remove() {
        AmountPlanner x = new AmountPlanner();
        x.add(three(1, 0, 0), AT_MOST, 3);
        x.add(three(1, 0, 0), AT_MOST, 5);
        x.add(three(1, 0, 0), AT_MOST, 9);
        for (int k : new int[] {-1, 3, 4, 5, 6, -6, Integer.MIN_VALUE, Integer.MAX_VALUE}) {
            due("remove(" + k + ")", x.remove(k), false);
        }
        due("after wrong removes: conditions()", x.conditions(), 7);
        dueReach("all three", x, 0, 0, 1, 3, 1);
        due("remove(0)", x.remove(0), true);
        due("remove(0) again", x.remove(0), false);
        due("after remove(0): conditions()", x.conditions(), 6);
        dueReach("without the first", x, 0, 0, 1, 5, 1);
        due("remove(2)", x.remove(2), true);
        dueReach("without the last", x, 0, 0, 1, 5, 1);
        due("remove(1)", x.remove(1), true);
        dueReach("without any", x, 0, 0, 1, 20, 1);
        due("after all removes: conditions()", x.conditions(), 0);
    }

    // Promise 4
    private static void conditions() {
        AmountPlanner x = new AmountPlanner();
        for (int k = 0; k < 5; k++) {
            due("conditions() with " + k, x.conditions(), (1 << k) - 1);
            x.add(three(1, 1, 1), k % 3, 7);
        }
        due("conditions() with 5", x.conditions(), 31);
        x.remove(2);
        due("conditions() without 2", x.conditions(), 27);
        x.remove(4);
        due("conditions() without 2 and 4", x.conditions(), 11);
        x.remove(0);
        due("conditions() with 1 and 3", x.conditions(), 10);
    }

    // Promise 5
    private static void goal() {
        AmountPlanner x = new AmountPlanner();
        due("goal(0)", x.goal(0), true);
        dueBest("goal -7 -7 -7", x, 0, 1);
        due("goal(3374)", x.goal(3374), true);
        dueBest("goal 7 7 7", x, 420, 1);
        for (int numbers : new int[] {-1, 3375, Integer.MIN_VALUE, Integer.MAX_VALUE}) {
            due("goal(" + numbers + ")", x.goal(numbers), false);
            dueBest("the goal as before", x, 420, 1);
        }
        x.goal(three(1, -2, 3));
        dueBest("goal 1 -2 3", x, 80, 1);
        duePoint("goal 1 -2 3", x, 20, 1, 0, 1, 20, 1);
        x.goal(three(-7, 5, -1));
        dueBest("goal -7 5 -1", x, 100, 1);
        due("goal of zeros", x.goal(three(0, 0, 0)), true);
        dueBest("goal of zeros", x, 0, 1);
    }

    // Promise 6
    private static void feasible() {
        AmountPlanner x = new AmountPlanner();
        dueByAnyEngine("no condition", x, true);
        x.add(three(1, 1, 1), AT_LEAST, 60);
        dueByAnyEngine("the far corner alone", x, true);
        x.add(three(7, 7, 6), AT_MOST, 99);
        dueByAnyEngine("too much asked", x, false);
        x.remove(0);
        dueByAnyEngine("the second alone", x, true);
        x.add(three(-1, 0, 0), AT_LEAST, 0);
        dueByAnyEngine("x0 is 0", x, true);
        x.add(three(0, 0, 3), EQUAL, 61);
        dueByAnyEngine("x2 above 20", x, false);
        AmountPlanner y = new AmountPlanner();
        y.add(three(0, 0, 0), EQUAL, 0);
        dueByAnyEngine("0 = 0", y, true);
        y.add(three(0, 0, 0), AT_MOST, -1);
        dueByAnyEngine("0 <= -1", y, false);
        AmountPlanner z = new AmountPlanner();
        z.add(three(2, 0, 0), EQUAL, 1);
        z.add(three(3, 3, 0), EQUAL, 2);
        dueByAnyEngine("x0 = 1/2, x0 + x1 = 2/3", z, true);
        z.add(three(0, 6, 0), AT_MOST, 0);
        dueByAnyEngine("and x1 <= 0", z, false);
        AmountPlanner thin = new AmountPlanner();
        thin.add(three(7, 0, 0), EQUAL, 1);
        thin.add(three(6, 0, 0), AT_LEAST, 1);
        dueByAnyEngine("x0 = 1/7 and x0 >= 1/6", thin, false);
    }

    private static void dueByAnyEngine(String when, AmountPlanner x, boolean want) {
        dueFeasible(when, x, want);
        for (int engine : WRONG_ENGINES) {
            due(when + ": feasible(" + engine + ")", x.feasible(engine), false);
        }
    }

    // Promises 7 and 8
    private static void best() {
        AmountPlanner x = new AmountPlanner();
        x.goal(three(1, 1, 0));
        x.add(three(3, 0, 0), AT_MOST, 10);
        x.add(three(0, 6, 0), AT_MOST, 10);
        dueBest("10/3 + 10/6", x, 5, 1);
        x.goal(three(2, 1, 0));
        dueBest("20/3 + 10/6", x, 25, 3);
        x.goal(three(-1, 0, 0));
        dueBest("nothing to lose", x, 0, 1);
        x.add(three(4, 0, 0), AT_LEAST, 6);
        dueBest("a loss of 3/2", x, -3, 2);
        x.goal(three(-7, 0, 0));
        dueBest("a loss of 21/2", x, -21, 2);
        AmountPlanner y = new AmountPlanner();
        y.goal(three(1, 0, 0));
        y.add(three(7, 1, 0), AT_MOST, 3);
        y.add(three(-1, 7, 1), AT_LEAST, 1);
        y.add(three(0, 1, -7), AT_LEAST, 0);
        // x2 <= x1/7, so x0 <= 50/7 x1 - 1; with x0 <= (3 - x1)/7 the most is at x1 = 10/51.
        dueBest("a large bottom", y, 143, 357);
        wrongEngines("with points", y);
        AmountPlanner none = withoutPoint();
        dueBest("no point", none, NONE, NONE);
        wrongEngines("no point", none);
    }

    private static void wrongEngines(String when, AmountPlanner x) {
        for (int engine : WRONG_ENGINES) {
            due(when + ": bestTop(" + engine + ")", x.bestTop(engine), BAD);
            due(when + ": bestBottom(" + engine + ")", x.bestBottom(engine), BAD);
        }
    }

    // Promises 9 and 10
    private static void point() {
        AmountPlanner x = new AmountPlanner();
        x.goal(three(1, 1, 1));
        x.add(three(1, 1, 1), AT_MOST, 50);
        duePoint("least x0, then x1", x, 10, 1, 20, 1, 20, 1);
        x.goal(three(0, 1, 1));
        x.add(three(0, 2, 2), AT_MOST, 45);
        duePoint("x0 free, then least x1", x, 0, 1, 5, 2, 20, 1);
        x.goal(three(0, 0, 0));
        duePoint("all free", x, 0, 1, 0, 1, 0, 1);
        x.add(three(1, 2, 4), AT_LEAST, 99);
        // At most 5 + 80 of the 99 come from x1 and x2, as x1 + x2 <= 45/2.
        duePoint("all free above a plane", x, 14, 1, 5, 2, 20, 1);
        AmountPlanner y = new AmountPlanner();
        y.add(three(6, 0, 0), EQUAL, 4);
        y.add(three(0, 7, 0), EQUAL, 99);
        y.add(three(1, 1, -1), EQUAL, 0);
        duePoint("one point", y, 2, 3, 99, 7, 311, 21);
        wrongPoints("one point", y);
        AmountPlanner none = withoutPoint();
        duePoint("no point", none, NONE, NONE, NONE, NONE, NONE, NONE);
        wrongPoints("no point", none);
    }

    private static void wrongPoints(String when, AmountPlanner x) {
        for (int i : WRONG_AMOUNTS) {
            due(when + ": pointTop(" + i + ")", x.pointTop(i), BAD);
            due(when + ": pointBottom(" + i + ")", x.pointBottom(i), BAD);
        }
    }

    // Promise 11
    private static void tight() {
        AmountPlanner x = new AmountPlanner();
        x.goal(three(1, 0, 0));
        x.add(three(7, 0, 0), AT_MOST, 10);
        x.add(three(0, 1, 0), AT_LEAST, 0);
        x.add(three(0, 0, 1), AT_LEAST, -1);
        x.add(three(0, 0, 0), EQUAL, 0);
        x.add(three(7, 1, 1), AT_MOST, 11);
        due("tight()", x.tight(), 11);
        x.remove(0);
        due("tight() without 0", x.tight(), 26);
        x.goal(three(-1, 0, 0));
        due("tight() at 0, 0, 0", x.tight(), 10);
        x.add(three(0, 0, 0), AT_LEAST, 0);
        due("tight() with 0 >= 0", x.tight(), 11);
        x.remove(1);
        x.add(three(0, 0, 0), AT_LEAST, 1);
        due("tight() without a point", x.tight(), NONE);
        AmountPlanner y = new AmountPlanner();
        y.goal(three(1, 1, 0));
        y.add(three(1, 1, 0), AT_MOST, 30);
        y.add(three(0, 1, 0), AT_MOST, 20);
        y.add(three(1, 0, 0), AT_MOST, 20);
        due("tight() at the first best point alone", y.tight(), 3);
    }

    // Promises 12 and 13
    private static void reach() {
        AmountPlanner x = new AmountPlanner();
        x.add(three(4, 6, 0), EQUAL, 50);
        x.add(three(0, 1, -1), AT_LEAST, 2);
        x.goal(three(0, 0, 7));
        dueReach("4 x0 + 6 x1 = 50", x, 0, 0, 1, 19, 2);
        dueReach("4 x0 + 6 x1 = 50", x, 1, 2, 1, 25, 3);
        dueReach("x2 <= x1 - 2", x, 2, 0, 1, 19, 3);
        x.goal(0);
        dueReach("another goal", x, 1, 2, 1, 25, 3);
        wrongReaches("with points", x);
        AmountPlanner none = withoutPoint();
        for (int i = 0; i < 3; i++) {
            dueReach("no point", none, i, NONE, NONE, NONE, NONE);
        }
        wrongReaches("no point", none);
    }

    private static void wrongReaches(String when, AmountPlanner x) {
        for (int i : WRONG_AMOUNTS) {
            due(when + ": reachTop(" + i + ", 0)", x.reachTop(i, 0), BAD);
            due(when + ": reachBottom(" + i + ", 1)", x.reachBottom(i, 1), BAD);
        }
        for (int what : new int[] {-1, 2, Integer.MIN_VALUE, Integer.MAX_VALUE}) {
            due(when + ": reachTop(1, " + what + ")", x.reachTop(1, what), BAD);
            due(when + ": reachBottom(1, " + what + ")", x.reachBottom(1, what), BAD);
        }
    }

    // Promise 14
    private static void redundant() {
        AmountPlanner x = new AmountPlanner();
        x.add(three(1, 1, 1), AT_MOST, 60);
        due("<= 60: redundant(0)", x.redundant(0), true);
        for (int k : new int[] {-1, 1, 4, 5, 6, -6, Integer.MIN_VALUE, Integer.MAX_VALUE}) {
            due("redundant(" + k + ")", x.redundant(k), false);
        }
        x.add(three(1, 1, 1), AT_MOST, 59);
        due("<= 59: redundant(0)", x.redundant(0), true);
        due("<= 59: redundant(1)", x.redundant(1), false);
        x.add(three(2, 2, 2), AT_LEAST, 1);
        due(">= 1/2: redundant(2)", x.redundant(2), false);
        x.add(three(3, 3, 3), AT_LEAST, 1);
        due(">= 1/3: redundant(3)", x.redundant(3), true);
        due(">= 1/2: redundant(2) beside it", x.redundant(2), false);
        x.add(three(-7, 0, 0), AT_MOST, 0);
        due("-7 x0 <= 0: redundant(4)", x.redundant(4), true);
        x.remove(4);
        due("removed: redundant(4)", x.redundant(4), false);
        AmountPlanner twice = new AmountPlanner();
        twice.add(three(1, 2, 3), AT_LEAST, 30);
        twice.add(three(2, 4, 6), AT_LEAST, 60);
        due("the same twice: redundant(0)", twice.redundant(0), true);
        due("the same twice: redundant(1)", twice.redundant(1), true);
        AmountPlanner none = withoutPoint();
        none.add(three(0, 1, 0), EQUAL, 99);
        none.add(three(0, 0, 1), AT_MOST, 5);
        none.add(three(0, 0, 1), AT_LEAST, 6);
        none.remove(3);
        due("no point elsewhere: redundant(0)", none.redundant(0), true);
        due("no point elsewhere: redundant(1)", none.redundant(1), true);
        due("no point elsewhere: redundant(2)", none.redundant(2), true);
        none.remove(1);
        due("alone without a point: redundant(0)", none.redundant(0), false);
        due("beside one without a point: redundant(2)", none.redundant(2), true);
    }

    private static void redundantOfEqual() {
        AmountPlanner x = new AmountPlanner();
        x.add(three(1, 0, 0), EQUAL, 20);
        due("x0 = 20 alone", x.redundant(0), false);
        x.add(three(2, 0, 0), AT_LEAST, 40);
        due("x0 = 20 beside x0 >= 20", x.redundant(0), true);
        due("x0 >= 20 beside x0 = 20", x.redundant(1), true);
        x.remove(0);
        due("x0 >= 20 alone", x.redundant(1), false);
        x.add(three(0, 1, 0), EQUAL, 0);
        due("x1 = 0 alone", x.redundant(0), false);
        x.add(three(0, 7, 0), AT_MOST, 0);
        due("x1 = 0 beside x1 <= 0", x.redundant(0), true);
        x.add(three(0, 0, 0), EQUAL, 0);
        due("0 = 0", x.redundant(3), true);
        x.add(three(0, 0, 0), EQUAL, 1);
        due("0 = 1", x.redundant(4), false);
    }

    // Promise 15
    private static void whole() {
        AmountPlanner x = new AmountPlanner();
        x.goal(three(1, 0, 0));
        x.add(three(2, 0, 0), AT_MOST, 7);
        due("x0 <= 7/2: whole()", x.whole(), 3);
        x.goal(three(-1, 0, 0));
        x.add(three(2, 0, 0), AT_LEAST, 3);
        due("x0 >= 3/2: whole()", x.whole(), -2);
        x.goal(three(0, 7, 7));
        due("x1 and x2: whole()", x.whole(), 280);
        x.goal(0);
        due("all against: whole()", x.whole(), -14);
        x.add(three(2, 2, 2), EQUAL, 9);
        due("no whole point: whole()", x.whole(), NONE);
        due("no whole point: feasible(1)", x.feasible(1), true);
        x.remove(2);
        due("whole points again: whole()", x.whole(), -14);
        due("no point: whole()", withoutPoint().whole(), NONE);
    }

    // Promise 16
    private static void wholePoint() {
        AmountPlanner x = new AmountPlanner();
        x.goal(three(1, 1, 1));
        due("wholePoint() of the far corner", x.wholePoint(), 9260);
        x.add(three(2, 2, 2), AT_MOST, 99);
        due("wholePoint() least x0", x.wholePoint(), 9 + 21 * 20 + 441 * 20);
        x.goal(three(0, 2, 2));
        x.add(three(0, 4, 4), AT_MOST, 91);
        due("wholePoint() least x1", x.wholePoint(), 0 + 21 * 2 + 441 * 20);
        x.goal(three(0, 0, 0));
        due("wholePoint() without a goal", x.wholePoint(), 0);
        x.add(three(3, 5, 7), EQUAL, 31);
        due("3 x0 + 5 x1 + 7 x2 = 31: wholePoint()", x.wholePoint(), 0 + 21 * 2 + 441 * 3);
        x.goal(three(1, 0, 0));
        due("the most x0: wholePoint()", x.wholePoint(), 8 + 0 + 441 * 1);
        x.add(three(0, 0, 2), EQUAL, 1);
        due("no whole point: wholePoint()", x.wholePoint(), NONE);
        due("no point: wholePoint()", withoutPoint().wholePoint(), NONE);
    }

    // Promise 17
    private static void wholes() {
        AmountPlanner x = new AmountPlanner();
        x.goal(three(1, 2, 3));
        x.add(three(1, 1, 1), AT_MOST, 3);
        due("sum <= 3: wholes()", x.wholes(), 20);
        x.add(three(2, 2, 2), AT_LEAST, 3);
        due("sum >= 3/2: wholes()", x.wholes(), 16);
        x.add(three(1, -1, 0), EQUAL, 0);
        due("x0 = x1: wholes()", x.wholes(), 4);
        x.add(three(0, 0, 2), EQUAL, 3);
        due("x2 = 3/2: wholes()", x.wholes(), 0);
        due("no point: wholes()", withoutPoint().wholes(), 0);
        AmountPlanner y = new AmountPlanner();
        y.add(three(0, 0, 1), AT_MOST, 19);
        due("x2 <= 19: wholes()", y.wholes(), 8820);
        y.add(three(1, 0, 0), EQUAL, 20);
        due("x0 = 20: wholes()", y.wholes(), 420);
    }

    private static void questionsChangeNothing() {
        AmountPlanner x = new AmountPlanner();
        x.goal(three(2, 3, 5));
        x.add(three(1, 2, 4), AT_MOST, 33);
        x.add(three(3, 1, 1), AT_LEAST, 4);
        x.add(three(1, -1, 0), EQUAL, 1);
        int top = x.bestTop(0);
        int bottom = x.bestBottom(0);
        for (int round = 0; round < 3; round++) {
            x.reachTop(2, 0);
            x.reachBottom(1, 1);
            x.redundant(round);
            x.wholes();
            x.whole();
            x.tight();
            dueBest("after questions", x, top, bottom);
            due("after questions: conditions()", x.conditions(), 7);
        }
        due("after 40 questions: feasible(2)", x.feasible(2), true);
    }

    private static void objectsAreApart() {
        AmountPlanner x = new AmountPlanner();
        AmountPlanner y = new AmountPlanner();
        x.goal(three(1, 0, 0));
        x.add(three(1, 0, 0), AT_MOST, 4);
        due("the other object: conditions()", y.conditions(), 0);
        dueBest("the other object", y, 0, 1);
        y.goal(three(0, 1, 0));
        dueBest("this object", x, 4, 1);
        dueBest("the other object", y, 20, 1);
    }
}
