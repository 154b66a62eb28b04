/** What the tests share: they extend it. */
abstract class Check {
    // As the document tells them, so that a wrong constant in the program is noticed.
    static final int BAD = -10000000;
    static final int FULL = -20000000;
    static final int NONE = -30000000;
    static final int AT_MOST = 0;
    static final int EQUAL = 1;
    static final int AT_LEAST = 2;

    private static int wrong = 0;

    static void due(String call, long got, long want) {
        if (got != want) {
            report(call + " answered " + got + ", due is " + want);
        }
    }

    static void due(String call, boolean got, boolean want) {
        if (got != want) {
            report(call + " answered " + got + ", due is " + want);
        }
    }

    static void report(String fault) {
        wrong++;
        System.out.println(fault);
    }

    static void end() {
        if (wrong != 0) {
            System.out.println(wrong + " answers are not as due");
            System.exit(1);
        }
        System.out.println("all answers are as due");
    }

    static int three(int n0, int n1, int n2) {
        return (n0 + 7) + 15 * (n1 + 7) + 225 * (n2 + 7);
    }

    static void dueBest(String when, AmountPlanner x, int top, int bottom) {
        for (int engine = 0; engine <= 2; engine++) {
            due(when + ": bestTop(" + engine + ")", x.bestTop(engine), top);
            due(when + ": bestBottom(" + engine + ")", x.bestBottom(engine), bottom);
        }
    }

    static void duePoint(String when, AmountPlanner x, int... topsAndBottoms) {
        for (int i = 0; i < 3; i++) {
            due(when + ": pointTop(" + i + ")", x.pointTop(i), topsAndBottoms[2 * i]);
            due(when + ": pointBottom(" + i + ")", x.pointBottom(i), topsAndBottoms[2 * i + 1]);
        }
    }

    static void dueReach(String when, AmountPlanner x, int i, int... fractions) {
        due(when + ": reachTop(" + i + ", 0)", x.reachTop(i, 0), fractions[0]);
        due(when + ": reachBottom(" + i + ", 0)", x.reachBottom(i, 0), fractions[1]);
        due(when + ": reachTop(" + i + ", 1)", x.reachTop(i, 1), fractions[2]);
        due(when + ": reachBottom(" + i + ", 1)", x.reachBottom(i, 1), fractions[3]);
    }

    static void dueFeasible(String when, AmountPlanner x, boolean want) {
        for (int engine = 0; engine <= 2; engine++) {
            due(when + ": feasible(" + engine + ")", x.feasible(engine), want);
        }
    }

    static void dueWhole(String when, AmountPlanner x, int whole, int wholePoint, int wholes) {
        due(when + ": whole()", x.whole(), whole);
        due(when + ": wholePoint()", x.wholePoint(), wholePoint);
        due(when + ": wholes()", x.wholes(), wholes);
    }

    /** No call that needs a point may find one. */
    static void dueNoPoint(String when, AmountPlanner x) {
        dueFeasible(when, x, false);
        dueBest(when, x, NONE, NONE);
        duePoint(when, x, NONE, NONE, NONE, NONE, NONE, NONE);
        due(when + ": tight()", x.tight(), NONE);
        for (int i = 0; i < 3; i++) {
            dueReach(when, x, i, NONE, NONE, NONE, NONE);
        }
        dueWhole(when, x, NONE, NONE, 0);
    }

    /** Every question with every argument allowed: 37 calls. */
    static String shown(AmountPlanner x) {
        StringBuilder text = new StringBuilder("conditions " + x.conditions());
        for (int engine = 0; engine <= 2; engine++) {
            text.append(", engine " + engine + " " + x.feasible(engine));
            text.append(" " + x.bestTop(engine) + "/" + x.bestBottom(engine));
        }
        for (int i = 0; i < 3; i++) {
            text.append(", amount " + i + " " + x.pointTop(i) + "/" + x.pointBottom(i));
            text.append(" from " + x.reachTop(i, 0) + "/" + x.reachBottom(i, 0));
            text.append(" to " + x.reachTop(i, 1) + "/" + x.reachBottom(i, 1));
        }
        text.append(", tight " + x.tight() + ", redundant");
        for (int k = 0; k < 5; k++) {
            text.append(" " + x.redundant(k));
        }
        text.append(", whole " + x.whole() + " at " + x.wholePoint() + " of " + x.wholes());
        return text.toString();
    }
}
