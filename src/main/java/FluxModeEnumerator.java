/**
 * Minimal steady flows of a small reaction network, in whole numbers.
 *
 * A support belongs to a mode just when the balanced vectors that live on it
 * form a line that is 0 nowhere on it, and one of the line's two directions
 * respects the one-way reactions. Every flow is a sum of minimal flows without
 * cancelling, so each question about flows is answered from the modes alone.
 */
public final class FluxModeEnumerator {
    private static final int MOST_SUBSTANCES = 4;
    private static final int MOST_REACTIONS = 8;
    private static final int TABLE_CELLS = 32;
    private static final int SUPPORTS = 256;
    private static final int FLUX_CELLS = 2048;
    private static final int MOST_AMOUNT = 3;
    private static final int GCD_STEPS = 1000000;

    private final int substanceCount;
    private final int reactionCount;
    // Cell (s, j) of a table lies at s * MOST_REACTIONS + j.
    private final int[] table = new int[TABLE_CELLS];
    // Sets of reactions are written as supports are: bit j stands for reaction j.
    private int twoWaySet;
    private int offSet;

    private int modeCount;
    private final int[] modeSupport = new int[SUPPORTS];
    // Value j of mode i lies at i * MOST_REACTIONS + j.
    private final int[] modeFlux = new int[FLUX_CELLS];

    private final int[] work = new int[TABLE_CELLS];
    private final int[] pivotColumn = new int[MOST_SUBSTANCES];
    private final int[] candidate = new int[MOST_REACTIONS];

    public FluxModeEnumerator(int substances, int reactions) {
        substanceCount = clamp(substances, 1, MOST_SUBSTANCES);
        reactionCount = clamp(reactions, 2, MOST_REACTIONS);
        listModes();
    }

    public int set(int s, int j, int value) {
        if (!isSubstance(s)) {
            return -1;
        }
        if (!isReaction(j)) {
            return -2;
        }
        if (value < -MOST_AMOUNT || value > MOST_AMOUNT) {
            return -3;
        }
        table[s * MOST_REACTIONS + j] = value;
        listModes();
        return 0;
    }

    public int get(int s, int j) {
        if (!isSubstance(s) || !isReaction(j)) {
            return -100;
        }
        return table[s * MOST_REACTIONS + j];
    }

    public int twoWay(int j, int flag) {
        if (!isReaction(j)) {
            return -1;
        }
        int before = bitOf(twoWaySet, j);
        twoWaySet = withBit(twoWaySet, j, flag != 0);
        listModes();
        return before;
    }

    public int turn(int j, int flag) {
        if (!isReaction(j)) {
            return -1;
        }
        int before = 1 - bitOf(offSet, j);
        offSet = withBit(offSet, j, flag == 0);
        listModes();
        return before;
    }

    public int modes() {
        return modeCount;
    }

    public int support(int i) {
        if (!isMode(i)) {
            return -1;
        }
        return modeSupport[i];
    }

    public int flux(int i, int j) {
        if (!isMode(i) || !isReaction(j)) {
            return -1000000;
        }
        return modeFlux[i * MOST_REACTIONS + j];
    }

    public int turnable(int i) {
        if (!isMode(i)) {
            return -1;
        }
        return isAllTwoWay(modeSupport[i]) ? 1 : 0;
    }

    public int find(int support) {
        for (int i = 0; i < modeCount; i++) {
            if (modeSupport[i] == support) {
                return i;
            }
        }
        return -1;
    }

    public int carries(int j, int direction) {
        if (!isReaction(j)) {
            return -1;
        }
        if (direction == 0) {
            return -2;
        }
        for (int i = 0; i < modeCount; i++) {
            if (runs(i, j, direction > 0)) {
                return 1;
            }
        }
        return 0;
    }

    public int coupled(int j, int k) {
        if (!isReaction(j) || !isReaction(k)) {
            return -1;
        }
        if (isCutOff(j, 0)) {
            return -2;
        }
        return isCutOff(j, 1 << k) ? 1 : 0;
    }

    public int without(int j) {
        if (!isReaction(j)) {
            return -1;
        }
        int left = 0;
        for (int i = 0; i < modeCount; i++) {
            if (bitOf(modeSupport[i], j) == 0) {
                left++;
            }
        }
        return left;
    }

    public int cutSize(int j) {
        if (!isReaction(j)) {
            return -1;
        }
        int least = -2;
        int end = 1 << reactionCount;
        for (int cut = 0; cut < end; cut++) {
            if (bitOf(cut, j) == 0 && isCutOff(j, cut)) {
                int size = countOf(cut);
                if (least < 0 || size < least) {
                    least = size;
                }
            }
        }
        return least;
    }

    public int yieldTop(int a, int b) {
        return yieldPart(a, b, true);
    }

    public int yieldBottom(int a, int b) {
        return yieldPart(a, b, false);
    }

    private boolean isSubstance(int s) {
        return s >= 0 && s < substanceCount;
    }

    private boolean isReaction(int j) {
        return j >= 0 && j < reactionCount;
    }

    private boolean isMode(int i) {
        return i >= 0 && i < modeCount;
    }

    private boolean isAllTwoWay(int reactionSet) {
        return (reactionSet & ~twoWaySet) == 0;
    }

    /** Whether mode i, or its negative where that is a flow too, has a value of this sign at j. */
    private boolean runs(int i, int j, boolean forward) {
        int value = modeFlux[i * MOST_REACTIONS + j];
        if (value == 0) {
            return false;
        }
        return (value > 0) == forward || isAllTwoWay(modeSupport[i]);
    }

    /** Whether no flow that is 0 on all of cut has a value other than 0 at j. */
    private boolean isCutOff(int j, int cut) {
        for (int i = 0; i < modeCount; i++) {
            if (bitOf(modeSupport[i], j) == 1 && (modeSupport[i] & cut) == 0) {
                return false;
            }
        }
        return true;
    }

    /** The numerator or the denominator of the greatest quotient; 0 if there is none. */
    private int yieldPart(int a, int b, boolean isTop) {
        int best = bestYield(a, b);
        if (best < 0) {
            return 0;
        }
        int top = yieldNumerator(best, a, b);
        int bottom = yieldDenominator(best, a);
        int divisor = commonDivisor(top, bottom);
        return quotient(isTop ? top : bottom, divisor);
    }

    /** The mode with the greatest quotient; -1 if a or b is not good or no minimal flow has v(a) > 0. */
    private int bestYield(int a, int b) {
        if (!isReaction(a) || !isReaction(b)) {
            return -1;
        }
        int best = -1;
        for (int i = 0; i < modeCount; i++) {
            if (runs(i, a, true) && (best < 0 || yieldsMore(i, best, a, b))) {
                best = i;
            }
        }
        return best;
    }

    private boolean yieldsMore(int i, int other, int a, int b) {
        long top = yieldNumerator(i, a, b);
        long bottom = yieldDenominator(i, a);
        long otherTop = yieldNumerator(other, a, b);
        long otherBottom = yieldDenominator(other, a);
        return top * otherBottom > otherTop * bottom;
    }

    // A mode with v(a) < 0 stands for its negative here, so both signs change together.
    private int yieldNumerator(int i, int a, int b) {
        int value = modeFlux[i * MOST_REACTIONS + b];
        return modeFlux[i * MOST_REACTIONS + a] < 0 ? -value : value;
    }

    private int yieldDenominator(int i, int a) {
        int value = modeFlux[i * MOST_REACTIONS + a];
        return value < 0 ? -value : value;
    }

    private void listModes() {
        modeCount = 0;
        int end = 1 << reactionCount;
        for (int support = 1; support < end; support++) {
            if ((support & offSet) == 0 && findLine(support)) {
                int sign = flowSign(support);
                if (sign != 0) {
                    addMode(support, sign);
                }
            }
        }
    }

    private void addMode(int support, int sign) {
        int divisor = 0;
        for (int j = 0; j < MOST_REACTIONS; j++) {
            divisor = commonDivisor(divisor, candidate[j]);
        }
        for (int j = 0; j < MOST_REACTIONS; j++) {
            modeFlux[modeCount * MOST_REACTIONS + j] = sign * quotient(candidate[j], divisor);
        }
        modeSupport[modeCount] = support;
        modeCount++;
    }

    /** The factor, 1 or -1, that makes the candidate the flow that counts; 0 if neither direction is a flow. */
    private int flowSign(int support) {
        int oneWay = support & ~twoWaySet;
        // Without a one-way reaction both directions are flows, and the first value decides.
        int deciding = oneWay == 0 ? support & -support : oneWay;
        int negatives = 0;
        for (int j = 0; j < reactionCount; j++) {
            if (candidate[j] < 0) {
                negatives |= 1 << j;
            }
        }
        negatives &= deciding;
        if (negatives == 0) {
            return 1;
        }
        return negatives == deciding ? -1 : 0;
    }

    /**
     * Whether the balanced vectors on this support form a line that is 0 nowhere
     * on it; if so, a point of the line other than 0 is left in candidate.
     */
    private boolean findLine(int support) {
        copyTable();
        int rank = 0;
        int free = -1;
        int divisor = 1;
        for (int j = 0; j < reactionCount; j++) {
            if (bitOf(support, j) == 0) {
                continue;
            }
            int row = pivotRow(rank, j);
            if (row >= 0) {
                swapRows(rank, row);
                clearColumn(rank, j, divisor);
                divisor = work[rank * MOST_REACTIONS + j];
                pivotColumn[rank] = j;
                rank++;
            } else if (free < 0) {
                free = j;
            } else {
                return false;
            }
        }
        return free >= 0 && readLine(rank, free, divisor);
    }

    private void copyTable() {
        for (int cell = 0; cell < TABLE_CELLS; cell++) {
            work[cell] = table[cell];
        }
    }

    private int pivotRow(int from, int column) {
        for (int row = from; row < substanceCount; row++) {
            if (work[row * MOST_REACTIONS + column] != 0) {
                return row;
            }
        }
        return -1;
    }

    private void swapRows(int row, int other) {
        for (int column = 0; column < MOST_REACTIONS; column++) {
            int kept = work[row * MOST_REACTIONS + column];
            work[row * MOST_REACTIONS + column] = work[other * MOST_REACTIONS + column];
            work[other * MOST_REACTIONS + column] = kept;
        }
    }

    // Dividing by the pivot before this one is exact and keeps every cell a
    // minor of the table, hence small; it also makes all pivots so far equal.
    private void clearColumn(int pivot, int pivotAt, int divisor) {
        int pivotValue = work[pivot * MOST_REACTIONS + pivotAt];
        for (int row = 0; row < substanceCount; row++) {
            if (row == pivot) {
                continue;
            }
            int factor = work[row * MOST_REACTIONS + pivotAt];
            for (int column = 0; column < MOST_REACTIONS; column++) {
                int kept = work[row * MOST_REACTIONS + column] * pivotValue;
                int taken = work[pivot * MOST_REACTIONS + column] * factor;
                work[row * MOST_REACTIONS + column] = quotient(kept - taken, divisor);
            }
        }
    }

    /** Reads the candidate off the cleared table, where every pivot is pivotValue; false if it is 0 at a pivot. */
    private boolean readLine(int rank, int free, int pivotValue) {
        for (int j = 0; j < MOST_REACTIONS; j++) {
            candidate[j] = 0;
        }
        candidate[free] = pivotValue;
        for (int row = 0; row < rank; row++) {
            int value = -work[row * MOST_REACTIONS + free];
            if (value == 0) {
                return false;
            }
            candidate[pivotColumn[row]] = value;
        }
        return true;
    }

    private static int clamp(int value, int least, int most) {
        if (value < least) {
            return least;
        }
        return value > most ? most : value;
    }

    private static int bitOf(int reactionSet, int j) {
        return (reactionSet >> j) & 1;
    }

    private static int withBit(int reactionSet, int j, boolean present) {
        return present ? reactionSet | (1 << j) : reactionSet & ~(1 << j);
    }

    private static int countOf(int reactionSet) {
        int size = 0;
        for (int j = 0; j < MOST_REACTIONS; j++) {
            size += bitOf(reactionSet, j);
        }
        return size;
    }

    private static int magnitude(int value) {
        return value < 0 ? -value : value;
    }

    // No divisor of this class is ever 0; the look makes that plain without the proof.
    private static int quotient(int value, int divisor) {
        return divisor == 0 ? 0 : value / divisor;
    }

    /** The greatest common divisor, never negative; with 0 it is the size of the other number. */
    private static int commonDivisor(int first, int second) {
        int a = magnitude(first);
        int b = magnitude(second);
        for (int step = 0; step < GCD_STEPS && b != 0; step++) {
            int rest = a % b;
            a = b;
            b = rest;
        }
        return a;
    }
}
