/** One object through all of its 512 calls: the last answers are as right as the first ones. */
public final class LongUseTest extends Check {
    private static final int CALLS = 512;

    private static int calls = 0;

    public static void main(String[] args) {
        everyKindOfCall();
        numbersGivenAgainAndAgain();
        filledAndEmptied();
        goalsOverAndOver();
        questionsAlone();
        refusedCallsAlone();
        end();
    }

    private static void call(String text, long got, long want) {
        calls++;
        due("call " + calls + ", " + text, got, want);
    }

    private static void call(String text, boolean got, boolean want) {
        calls++;
        due("call " + calls + ", " + text, got, want);
    }

    private static void dueCalls(String run) {
        due(run + ": the calls made", calls, CALLS);
        calls = 0;
    }

    // 28 rounds of 18 calls and 8 more.
    private static void everyKindOfCall() {
        AmountPlanner x = new AmountPlanner();
        for (int round = 1; round <= 28; round++) {
            // 2 x0 is at most an odd number below 40, so x0 ends between two whole amounts.
            int odd = 2 * (round % 19) + 1;
            call("add", x.add(three(2, 0, 0), AT_MOST, odd), 0);
            call("add", x.add(three(0, 1, 0), EQUAL, round % 21), 1);
            call("goal", x.goal(three(2, 1, 0)), true);
            call("conditions", x.conditions(), 3);
            call("feasible", x.feasible(round % 3), true);
            call("bestTop", x.bestTop(round % 3), odd + round % 21);
            call("bestBottom", x.bestBottom(round % 3), 1);
            call("pointTop", x.pointTop(0), odd);
            call("pointBottom", x.pointBottom(0), 2);
            call("tight", x.tight(), 3);
            call("reachTop", x.reachTop(0, 1), odd);
            call("reachBottom", x.reachBottom(0, 1), 2);
            call("redundant", x.redundant(round % 2), false);
            call("whole", x.whole(), odd - 1 + round % 21);
            call("wholePoint", x.wholePoint(), (odd - 1) / 2 + 21 * (round % 21));
            call("wholes", x.wholes(), (odd + 1) / 2 * 21);
            call("remove", x.remove(0), true);
            call("remove", x.remove(1), true);
        }
        for (int k = 0; k < 5; k++) {
            call("add number " + k, x.add(three(1, 1, 1), AT_LEAST, 12 * (k + 1)), k);
        }
        call("tight", x.tight(), 16);
        call("bestTop", x.bestTop(2), 60);
        call("wholePoint", x.wholePoint(), 9260);
        dueCalls("every kind of call");
    }

    private static void numbersGivenAgainAndAgain() {
        AmountPlanner x = new AmountPlanner();
        for (int round = 0; round < 128; round++) {
            int b = round % 99 + 1;
            call("add", x.add(three(5, 0, 0), AT_MOST, b), 0);
            call("conditions", x.conditions(), 1);
            call("reachTop", x.reachTop(0, 1), b % 5 == 0 ? b / 5 : b);
            call("remove", x.remove(0), true);
        }
        dueCalls("numbers given again and again");
    }

    // 42 rounds of 12 calls and 8 more.
    private static void filledAndEmptied() {
        AmountPlanner x = new AmountPlanner();
        for (int round = 0; round < 42; round++) {
            fill(x);
            call("add a sixth", x.add(three(1, 0, 0), AT_MOST, 1), FULL);
            for (int k = 4; k >= 0; k--) {
                call("remove(" + k + ")", x.remove(k), true);
            }
            call("remove(0) again", x.remove(0), false);
        }
        fill(x);
        call("conditions", x.conditions(), 31);
        call("feasible", x.feasible(2), true);
        call("reachTop", x.reachTop(0, 1), 10);
        dueCalls("filled and emptied");
    }

    private static void fill(AmountPlanner x) {
        for (int k = 0; k < 5; k++) {
            call("add number " + k, x.add(three(1, 0, 0), AT_MOST, 10 + k), k);
        }
    }

    private static void goalsOverAndOver() {
        AmountPlanner x = new AmountPlanner();
        for (int round = 0; round < 256; round++) {
            int n = round % 15 - 7;
            call("goal", x.goal(three(-n, n, 1)), true);
            call("bestTop", x.bestTop(round % 3), 20 * Math.abs(n) + 20);
        }
        dueCalls("goals over and over");
    }

    // Two calls that make a condition and a goal, 13 times all questions, and 29 more.
    private static void questionsAlone() {
        AmountPlanner x = new AmountPlanner();
        call("add", x.add(three(3, 2, 1), AT_MOST, 20), 0);
        call("goal", x.goal(three(5, 4, 1)), true);
        String first = shown(x);
        calls += 37;
        for (int round = 1; round < 13; round++) {
            if (!shown(x).equals(first)) {
                report("round " + round + " of questions answered otherwise than the first");
            }
            calls += 37;
        }
        int wholes = wholesOfSum();
        for (int last = 0; last < 28; last++) {
            call("wholes", x.wholes(), wholes);
        }
        call("conditions", x.conditions(), 1);
        dueCalls("questions alone");
    }

    private static int wholesOfSum() {
        int count = 0;
        for (int x0 = 0; x0 <= 20; x0++) {
            for (int x1 = 0; x1 <= 20; x1++) {
                for (int x2 = 0; x2 <= 20; x2++) {
                    count += 3 * x0 + 2 * x1 + x2 <= 20 ? 1 : 0;
                }
            }
        }
        return count;
    }

    // 63 rounds of 8 calls, and 8 that are answered as by a new object.
    private static void refusedCallsAlone() {
        AmountPlanner x = new AmountPlanner();
        for (int round = 0; round < 63; round++) {
            call("add", x.add(3375 + round, 0, 0), BAD);
            call("add", x.add(0, 3 + round, 0), BAD);
            call("add", x.add(0, 0, -100 - round), BAD);
            call("remove", x.remove(round), false);
            call("goal", x.goal(-1 - round), false);
            call("feasible", x.feasible(-1 - round), false);
            call("pointTop", x.pointTop(3 + round), BAD);
            call("reachBottom", x.reachBottom(0, 2 + round), BAD);
        }
        call("conditions", x.conditions(), 0);
        call("feasible", x.feasible(0), true);
        call("bestTop", x.bestTop(1), 0);
        call("bestBottom", x.bestBottom(2), 1);
        call("reachTop", x.reachTop(2, 1), 20);
        call("wholes", x.wholes(), 9261);
        call("add", x.add(three(1, 1, 1), AT_LEAST, 60), 0);
        call("pointTop", x.pointTop(2), 20);
        dueCalls("refused calls alone");
    }
}
