/**
 * Makes the most of three amounts under conditions, exactly, in fractions and in whole numbers.
 *
 * <p>The amounts are limited to 0 .. 20, so the points form a bounded body: the first best point for
 * any aim is a corner of it, and every corner is where three of its planes meet. There are at most
 * eleven planes, so all corners are looked at, in whole numbers over a common bottom.
 */
public final class AmountPlanner {
    public static final int BAD = -10000000;
    public static final int FULL = -20000000;
    public static final int NONE = -30000000;

    private static final int AMOUNTS = 3;
    private static final int GREATEST_AMOUNT = 20;
    private static final int WHOLE_AMOUNTS = 21;

    // Kind 1, equal to, needs no name: it is the one that allows neither more nor less.
    private static final int AT_MOST = 0;
    private static final int AT_LEAST = 2;

    private static final int GREATEST_NUMBERS = 3374;
    private static final int GREATEST_B = 99;
    private static final int ONLY_X0 = 1688;
    private static final int ONLY_X1 = 1702;
    private static final int ONLY_X2 = 1912;

    private static final int CONDITIONS = 5;
    private static final int FIRST_CONDITION_ROW = 6;
    private static final int ROWS = 11;
    private static final int FACTORS = 33;

    // More steps than Euclid's method needs for any two ints.
    private static final int DIVISOR_STEPS = 100;

    // Rows 0 .. 5 hold the limits of the amounts, so that a search treats them as it treats the
    // conditions, which have rows 6 .. 10.
    private final int[] factors = new int[FACTORS];
    private final int[] kinds = new int[ROWS];
    private final int[] bounds = new int[ROWS];
    private final boolean[] used = new boolean[ROWS];

    private final int[] goalFactors = new int[AMOUNTS];

    // What the search makes the most of: the goal, one amount, or one condition's sum.
    private final int[] aim = new int[AMOUNTS];

    // The place under test, and the first best point so far: three tops over one positive bottom.
    private final int[] placeTops = new int[AMOUNTS];
    private int placeBottom = 1;
    private final int[] keptTops = new int[AMOUNTS];
    private int keptBottom = 1;

    private int pointsMet = 0;

    public AmountPlanner() {
        setRow(0, ONLY_X0, AT_LEAST, 0);
        setRow(1, ONLY_X1, AT_LEAST, 0);
        setRow(2, ONLY_X2, AT_LEAST, 0);
        setRow(3, ONLY_X0, AT_MOST, GREATEST_AMOUNT);
        setRow(4, ONLY_X1, AT_MOST, GREATEST_AMOUNT);
        setRow(5, ONLY_X2, AT_MOST, GREATEST_AMOUNT);
    }

    public int add(int numbers, int kind, int b) {
        if (!areNumbers(numbers) || kind < AT_MOST || kind > AT_LEAST) {
            return BAD;
        }
        if (b < -GREATEST_B || b > GREATEST_B) {
            return BAD;
        }
        for (int k = 0; k < CONDITIONS; k++) {
            if (!used[FIRST_CONDITION_ROW + k]) {
                setRow(FIRST_CONDITION_ROW + k, numbers, kind, b);
                return k;
            }
        }
        return FULL;
    }

    public boolean remove(int k) {
        if (!isCondition(k)) {
            return false;
        }
        used[FIRST_CONDITION_ROW + k] = false;
        return true;
    }

    public int conditions() {
        int bits = 0;
        for (int k = 0; k < CONDITIONS; k++) {
            if (used[FIRST_CONDITION_ROW + k]) {
                bits |= 1 << k;
            }
        }
        return bits;
    }

    public boolean goal(int numbers) {
        if (!areNumbers(numbers)) {
            return false;
        }
        for (int i = 0; i < AMOUNTS; i++) {
            goalFactors[i] = numberAt(numbers, i);
        }
        return true;
    }

    public boolean feasible(int engine) {
        return isEngine(engine) && findBest();
    }

    public int bestTop(int engine) {
        if (!isEngine(engine)) {
            return BAD;
        }
        if (!findBest()) {
            return NONE;
        }
        int worth = aimedAt(keptTops);
        return lowestTop(worth, keptBottom);
    }

    public int bestBottom(int engine) {
        if (!isEngine(engine)) {
            return BAD;
        }
        if (!findBest()) {
            return NONE;
        }
        int worth = aimedAt(keptTops);
        return lowestBottom(worth, keptBottom);
    }

    public int pointTop(int i) {
        if (!isAmount(i)) {
            return BAD;
        }
        if (!findBest()) {
            return NONE;
        }
        return lowestTop(keptTops[i], keptBottom);
    }

    public int pointBottom(int i) {
        if (!isAmount(i)) {
            return BAD;
        }
        if (!findBest()) {
            return NONE;
        }
        return lowestBottom(keptTops[i], keptBottom);
    }

    public int tight() {
        if (!findBest()) {
            return NONE;
        }
        int bits = 0;
        for (int k = 0; k < CONDITIONS; k++) {
            int row = FIRST_CONDITION_ROW + k;
            if (used[row] && excess(row, keptTops, keptBottom) == 0) {
                bits |= 1 << k;
            }
        }
        return bits;
    }

    public int reachTop(int i, int what) {
        if (!isAmount(i) || what < 0 || what > 1) {
            return BAD;
        }
        if (!findReach(i, what)) {
            return NONE;
        }
        return lowestTop(keptTops[i], keptBottom);
    }

    public int reachBottom(int i, int what) {
        if (!isAmount(i) || what < 0 || what > 1) {
            return BAD;
        }
        if (!findReach(i, what)) {
            return NONE;
        }
        return lowestBottom(keptTops[i], keptBottom);
    }

    public boolean redundant(int k) {
        if (!isCondition(k)) {
            return false;
        }
        int row = FIRST_CONDITION_ROW + k;
        // The condition stands aside while the others are searched, and is back before the answer.
        used[row] = false;
        boolean neverAbove = kinds[row] == AT_LEAST || staysWithin(row, 1);
        boolean neverBelow = kinds[row] == AT_MOST || staysWithin(row, -1);
        used[row] = true;
        return neverAbove && neverBelow;
    }

    public int whole() {
        if (!findWhole()) {
            return NONE;
        }
        return aimedAt(keptTops);
    }

    public int wholePoint() {
        if (!findWhole()) {
            return NONE;
        }
        return keptTops[0] + WHOLE_AMOUNTS * (keptTops[1] + WHOLE_AMOUNTS * keptTops[2]);
    }

    public int wholes() {
        findWhole();
        return pointsMet;
    }

    private static boolean areNumbers(int numbers) {
        return numbers >= 0 && numbers <= GREATEST_NUMBERS;
    }

    private static boolean isEngine(int engine) {
        return engine >= 0 && engine <= 2;
    }

    private static boolean isAmount(int i) {
        return i >= 0 && i < AMOUNTS;
    }

    private boolean isCondition(int k) {
        return k >= 0 && k < CONDITIONS && used[FIRST_CONDITION_ROW + k];
    }

    private static int numberAt(int numbers, int i) {
        if (i == 0) {
            return numbers % 15 - 7;
        }
        if (i == 1) {
            return numbers / 15 % 15 - 7;
        }
        return numbers / 225 - 7;
    }

    private void setRow(int row, int numbers, int kind, int b) {
        for (int i = 0; i < AMOUNTS; i++) {
            factors[AMOUNTS * row + i] = numberAt(numbers, i);
        }
        kinds[row] = kind;
        bounds[row] = b;
        used[row] = true;
    }

    private boolean findBest() {
        aimAtGoal();
        return searchCorners();
    }

    private boolean findWhole() {
        aimAtGoal();
        return searchWholes();
    }

    private boolean findReach(int i, int what) {
        for (int j = 0; j < AMOUNTS; j++) {
            aim[j] = 0;
        }
        aim[i] = what == 1 ? 1 : -1;
        return searchCorners();
    }

    private void aimAtGoal() {
        for (int i = 0; i < AMOUNTS; i++) {
            aim[i] = goalFactors[i];
        }
    }

    // Where the rows in use leave no point at all, no point breaks this row: that counts as within.
    private boolean staysWithin(int row, int sign) {
        for (int i = 0; i < AMOUNTS; i++) {
            aim[i] = sign * factors[AMOUNTS * row + i];
        }
        if (!searchCorners()) {
            return true;
        }
        return sign * excess(row, keptTops, keptBottom) <= 0;
    }

    private boolean searchCorners() {
        pointsMet = 0;
        for (int p = 0; p < ROWS; p++) {
            for (int q = p + 1; q < ROWS; q++) {
                for (int r = q + 1; r < ROWS; r++) {
                    if (used[p] && used[q] && used[r] && placeAtCorner(p, q, r)) {
                        consider();
                    }
                }
            }
        }
        return pointsMet > 0;
    }

    private boolean searchWholes() {
        pointsMet = 0;
        placeBottom = 1;
        for (int x0 = 0; x0 <= GREATEST_AMOUNT; x0++) {
            for (int x1 = 0; x1 <= GREATEST_AMOUNT; x1++) {
                for (int x2 = 0; x2 <= GREATEST_AMOUNT; x2++) {
                    placeTops[0] = x0;
                    placeTops[1] = x1;
                    placeTops[2] = x2;
                    consider();
                }
            }
        }
        return pointsMet > 0;
    }

    // Cramer's rule, by cross products; false when the three planes don't meet in one place.
    private boolean placeAtCorner(int p, int q, int r) {
        int bottom = 0;
        for (int i = 0; i < AMOUNTS; i++) {
            bottom += factors[AMOUNTS * p + i] * cross(q, r, i);
        }
        if (bottom == 0) {
            return false;
        }
        int sign = bottom < 0 ? -1 : 1;
        placeBottom = sign * bottom;
        for (int i = 0; i < AMOUNTS; i++) {
            int top = bounds[p] * cross(q, r, i) + bounds[q] * cross(r, p, i) + bounds[r] * cross(p, q, i);
            placeTops[i] = sign * top;
        }
        return true;
    }

    private int cross(int row, int other, int i) {
        int next = (i + 1) % AMOUNTS;
        int last = (i + 2) % AMOUNTS;
        return factors[AMOUNTS * row + next] * factors[AMOUNTS * other + last]
                - factors[AMOUNTS * row + last] * factors[AMOUNTS * other + next];
    }

    private void consider() {
        if (!placeMeetsAll()) {
            return;
        }
        if (pointsMet == 0 || placeIsBetter()) {
            keepPlace();
        }
        pointsMet++;
    }

    private boolean placeMeetsAll() {
        for (int row = 0; row < ROWS; row++) {
            if (used[row]) {
                int over = excess(row, placeTops, placeBottom);
                boolean tooMuch = over > 0 && kinds[row] != AT_LEAST;
                boolean tooLittle = over < 0 && kinds[row] != AT_MOST;
                if (tooMuch || tooLittle) {
                    return false;
                }
            }
        }
        return true;
    }

    // How far the row's sum is above its bound, times the bottom: of the right sign, and 0 when tight.
    private int excess(int row, int[] tops, int bottom) {
        int sum = -bounds[row] * bottom;
        for (int i = 0; i < AMOUNTS; i++) {
            sum += factors[AMOUNTS * row + i] * tops[i];
        }
        return sum;
    }

    private boolean placeIsBetter() {
        int placeWorth = aimedAt(placeTops);
        int keptWorth = aimedAt(keptTops);
        long gain = crossDifference(placeWorth, keptWorth);
        if (gain != 0) {
            return gain > 0;
        }
        for (int i = 0; i < AMOUNTS; i++) {
            long more = crossDifference(placeTops[i], keptTops[i]);
            if (more != 0) {
                return more < 0;
            }
        }
        return false;
    }

    // Compares two fractions without dividing, as both bottoms are positive.
    private long crossDifference(int placeTop, int keptTop) {
        return (long) placeTop * keptBottom - (long) keptTop * placeBottom;
    }

    private int aimedAt(int[] tops) {
        int sum = 0;
        for (int i = 0; i < AMOUNTS; i++) {
            sum += aim[i] * tops[i];
        }
        return sum;
    }

    private void keepPlace() {
        for (int i = 0; i < AMOUNTS; i++) {
            keptTops[i] = placeTops[i];
        }
        keptBottom = placeBottom;
    }

    private static int lowestTop(int top, int bottom) {
        return top / commonDivisor(top, bottom);
    }

    private static int lowestBottom(int top, int bottom) {
        return bottom / commonDivisor(top, bottom);
    }

    // At least 1 for every pair, so that it can be divided by.
    private static int commonDivisor(int top, int bottom) {
        int divisor = bottom;
        int rest = top < 0 ? -top : top;
        for (int step = 0; step < DIVISOR_STEPS && rest != 0; step++) {
            int next = divisor % rest;
            divisor = rest;
            rest = next;
        }
        return divisor < 1 ? 1 : divisor;
    }
}
