import java.util.LinkedHashSet;
import java.util.Set;
import java.util.function.Supplier;
import java.util.function.ToIntFunction;

/**
 * Refused calls, in states of every kind: each argument next to its least and greatest allowed value
 * and far outside, two refusals at once where the document gives an order, and that a refused call
 * changes nothing that later calls show.
 */
public final class RefusalTest extends Check {
    private static final int[] AMOUNTS = {0, 1, 2};

    public static void main(String[] args) {
        refusals(new State("new", 0, AmountPlanner::new));
        refusals(new State("one condition", 1, RefusalTest::oneCondition));
        refusals(new State("five conditions", 31, RefusalTest::fiveConditions));
        refusals(new State("five conditions without a point", 31, RefusalTest::fiveWithoutPoint));
        refusals(new State("one point alone", 7, RefusalTest::onePoint));
        refusals(new State("conditions 1 and 3", 10, RefusalTest::gaps));
        refusals(new State("points but no whole ones", 1, RefusalTest::noWholePoint));
        refusals(new State("no point", 1, RefusalTest::withoutPoint));
        fullIsTestedLast();
        enginesAreTestedFirst();
        amountsAreTestedFirst();
        reachesAreTestedFirst();
        end();
    }

    /** A way to make an object, and the conditions that it then has. */
    private static final class State {
        final String name;
        final int bits;
        final Supplier<AmountPlanner> maker;
        final String later;

        State(String name, int bits, Supplier<AmountPlanner> maker) {
            this.name = name;
            this.bits = bits;
            this.maker = maker;
            this.later = later(maker.get());
        }
    }

    private static AmountPlanner oneCondition() {
        AmountPlanner x = new AmountPlanner();
        x.goal(three(1, 2, -1));
        x.add(three(1, 2, 3), AT_MOST, 17);
        return x;
    }

    private static AmountPlanner fiveConditions() {
        AmountPlanner x = new AmountPlanner();
        x.goal(three(3, 4, 2));
        x.add(three(2, 1, 0), AT_MOST, 15);
        x.add(three(1, 3, 0), AT_MOST, 22);
        x.add(three(0, 1, 2), AT_MOST, 9);
        x.add(three(1, 1, 1), AT_LEAST, 3);
        x.add(three(0, 3, -3), EQUAL, 1);
        return x;
    }

    private static AmountPlanner fiveWithoutPoint() {
        AmountPlanner x = fiveConditions();
        x.remove(3);
        x.add(three(1, 1, 1), AT_LEAST, 59);
        return x;
    }

    private static AmountPlanner onePoint() {
        AmountPlanner x = new AmountPlanner();
        x.goal(three(-1, 5, 2));
        x.add(three(7, 7, -6), EQUAL, 11);
        x.add(three(7, -6, 6), EQUAL, 59);
        x.add(three(-5, 7, 7), EQUAL, 69);
        return x;
    }

    private static AmountPlanner gaps() {
        AmountPlanner x = fiveConditions();
        x.remove(0);
        x.remove(4);
        x.remove(2);
        return x;
    }

    private static AmountPlanner noWholePoint() {
        AmountPlanner x = new AmountPlanner();
        x.goal(three(1, 1, 1));
        x.add(three(2, 4, 6), EQUAL, 33);
        return x;
    }

    private static AmountPlanner withoutPoint() {
        AmountPlanner x = new AmountPlanner();
        x.add(three(0, 0, 0), AT_LEAST, 1);
        return x;
    }

    /** All that later calls show, through changes that bring each condition's part to light. */
    private static String later(AmountPlanner x) {
        StringBuilder text = new StringBuilder(shown(x));
        text.append("; added " + x.add(three(1, 1, 1), AT_MOST, 40) + ": " + shown(x));
        for (int k = 0; k < 5; k++) {
            text.append("; removed " + x.remove(k) + ": " + shown(x));
        }
        text.append("; goal " + x.goal(three(-1, 2, 3)) + ": " + shown(x));
        return text.toString();
    }

    /** One refused call on an object of its own; a boolean counts 1 or 0. */
    private static void refused(State state, String call, ToIntFunction<AmountPlanner> made, int want) {
        AmountPlanner x = state.maker.get();
        due(state.name + ": " + call, made.applyAsInt(x), want);
        String got = later(x);
        if (!got.equals(state.later)) {
            report(state.name + ": after " + call + "\n  " + got + "\nis not\n  " + state.later);
        }
    }

    /** Next to the range, at the ends of int, and what a narrower type or a shift takes for allowed. */
    private static int[] outside(int least, int greatest) {
        Set<Integer> values = new LinkedHashSet<>();
        for (int value : new int[] {least - 1, greatest + 1, Integer.MIN_VALUE, Integer.MAX_VALUE,
                Integer.MIN_VALUE + greatest, least + 32, least - 32, least + 256, least + 65536,
                least - 65536}) {
            if (value < least || value > greatest) {
                values.add(value);
            }
        }
        return values.stream().mapToInt(Integer::intValue).toArray();
    }

    private static void refusals(State state) {
        adds(state);
        addsWhenFull(state);
        goals(state);
        numbersOfNone(state);
        engines(state);
        points(state);
        reaches(state);
        // Where there is no point, most of these are refused.
        refused(state, "every question", x -> shown(x).isEmpty() ? 1 : 0, 0);
    }

    private static void adds(State state) {
        for (int numbers : outside(0, 3374)) {
            refused(state, "add(" + numbers + ", 0, 0)", x -> x.add(numbers, 0, 0), BAD);
            refused(state, "add(" + numbers + ", 2, 99)", x -> x.add(numbers, 2, 99), BAD);
        }
        for (int kind : outside(0, 2)) {
            refused(state, "add(0, " + kind + ", -99)", x -> x.add(0, kind, -99), BAD);
            refused(state, "add(3374, " + kind + ", 99)", x -> x.add(3374, kind, 99), BAD);
        }
        for (int b : outside(-99, 99)) {
            for (int kind : new int[] {AT_MOST, EQUAL, AT_LEAST}) {
                refused(state, "add(1688, " + kind + ", " + b + ")", x -> x.add(1688, kind, b), BAD);
            }
        }
    }

    private static void addsWhenFull(State state) {
        if (state.bits == 31) {
            for (int kind : new int[] {AT_MOST, EQUAL, AT_LEAST}) {
                refused(state, "add(0, " + kind + ", -99)", x -> x.add(0, kind, -99), FULL);
                refused(state, "add(1687, " + kind + ", 0)", x -> x.add(1687, kind, 0), FULL);
                refused(state, "add(3374, " + kind + ", 99)", x -> x.add(3374, kind, 99), FULL);
            }
        }
    }

    private static void goals(State state) {
        for (int numbers : outside(0, 3374)) {
            refused(state, "goal(" + numbers + ")", x -> x.goal(numbers) ? 1 : 0, 0);
        }
    }

    private static void numbersOfNone(State state) {
        for (int k : outside(0, 4)) {
            numberOfNone(state, k);
        }
        for (int k = 0; k < 5; k++) {
            if ((state.bits >> k & 1) == 0) {
                numberOfNone(state, k);
            }
        }
    }

    private static void numberOfNone(State state, int k) {
        refused(state, "remove(" + k + ")", x -> x.remove(k) ? 1 : 0, 0);
        refused(state, "redundant(" + k + ")", x -> x.redundant(k) ? 1 : 0, 0);
    }

    private static void engines(State state) {
        for (int engine : outside(0, 2)) {
            refused(state, "feasible(" + engine + ")", x -> x.feasible(engine) ? 1 : 0, 0);
            refused(state, "bestTop(" + engine + ")", x -> x.bestTop(engine), BAD);
            refused(state, "bestBottom(" + engine + ")", x -> x.bestBottom(engine), BAD);
        }
    }

    private static void points(State state) {
        for (int i : outside(0, 2)) {
            refused(state, "pointTop(" + i + ")", x -> x.pointTop(i), BAD);
            refused(state, "pointBottom(" + i + ")", x -> x.pointBottom(i), BAD);
        }
    }

    private static void reaches(State state) {
        for (int i : outside(0, 2)) {
            reach(state, i, 0);
            reach(state, i, 1);
            reach(state, i, i);
        }
        for (int what : outside(0, 1)) {
            for (int i : AMOUNTS) {
                reach(state, i, what);
            }
        }
    }

    private static void reach(State state, int i, int what) {
        refused(state, "reachTop(" + i + ", " + what + ")", x -> x.reachTop(i, what), BAD);
        refused(state, "reachBottom(" + i + ", " + what + ")", x -> x.reachBottom(i, what), BAD);
    }

    // Promise 2: "BAD when numbers .., kind .., or b ..; FULL when there are five (tested in this order)"
    private static void fullIsTestedLast() {
        AmountPlanner x = fiveConditions();
        due("full: add(-1, 0, 0)", x.add(-1, 0, 0), BAD);
        due("full: add(3375, 0, 0)", x.add(3375, 0, 0), BAD);
        due("full: add(0, -1, 0)", x.add(0, -1, 0), BAD);
        due("full: add(0, 3, 0)", x.add(0, 3, 0), BAD);
        due("full: add(0, 0, -100)", x.add(0, 0, -100), BAD);
        due("full: add(0, 0, 100)", x.add(0, 0, 100), BAD);
        due("full: add(-1, 3, 100)", x.add(-1, 3, 100), BAD);
        due("full: add(0, 0, 0)", x.add(0, 0, 0), FULL);
        due("full: conditions()", x.conditions(), 31);
        x.remove(4);
        due("four: add(-1, 3, 0)", x.add(-1, 3, 0), BAD);
        due("four: add(0, 3, 100)", x.add(0, 3, 100), BAD);
        due("four: add(-1, 0, 100)", x.add(-1, 0, 100), BAD);
        due("four: conditions()", x.conditions(), 15);
    }

    // Promises 7 and 8: "BAD when engine is not 0 .. 2 (tested first)"
    private static void enginesAreTestedFirst() {
        AmountPlanner x = withoutPoint();
        for (int engine : outside(0, 2)) {
            due("no point: bestTop(" + engine + ")", x.bestTop(engine), BAD);
            due("no point: bestBottom(" + engine + ")", x.bestBottom(engine), BAD);
        }
        dueBest("no point", x, NONE, NONE);
    }

    // Promises 9 and 10: "BAD when i is not 0 .. 2; NONE when there is no point (tested in this order)"
    private static void amountsAreTestedFirst() {
        AmountPlanner x = withoutPoint();
        for (int i : outside(0, 2)) {
            due("no point: pointTop(" + i + ")", x.pointTop(i), BAD);
            due("no point: pointBottom(" + i + ")", x.pointBottom(i), BAD);
        }
        duePoint("no point", x, NONE, NONE, NONE, NONE, NONE, NONE);
    }

    // Promises 12 and 13: "BAD when i .. or what ..; NONE when there is no point (tested in this order)"
    private static void reachesAreTestedFirst() {
        AmountPlanner x = withoutPoint();
        for (int i : outside(0, 2)) {
            due("no point: reachTop(" + i + ", 0)", x.reachTop(i, 0), BAD);
            due("no point: reachBottom(" + i + ", 1)", x.reachBottom(i, 1), BAD);
        }
        for (int what : outside(0, 1)) {
            due("no point: reachTop(2, " + what + ")", x.reachTop(2, what), BAD);
            due("no point: reachBottom(0, " + what + ")", x.reachBottom(0, what), BAD);
        }
        for (int i : AMOUNTS) {
            dueReach("no point", x, i, NONE, NONE, NONE, NONE);
        }
    }
}
