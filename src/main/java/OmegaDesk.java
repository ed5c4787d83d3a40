/**
 * Conditions on three whole numbers, and whether, and by which numbers, they can all be met.
 *
 * The cube of possible (x, y, z) has only 2197 rows, so every question is answered by going
 * through all of them. Rows are counted from 0 in the order of solutions: by x, then y, then z.
 */
public final class OmegaDesk {
    private static final int LEAST = -6;
    private static final int SPAN = 13;
    private static final int ROWS = SPAN * SPAN * SPAN;
    private static final int VARIABLES = 3;
    private static final int FACTOR_BOUND = 9;
    private static final int RIGHT_SIDE_BOUND = 99;
    private static final int CAPACITY = 8;
    private static final int REFUSED = -1;
    private static final int NO_VALUE = 100;

    private final int[] xFactors = new int[CAPACITY];
    private final int[] yFactors = new int[CAPACITY];
    private final int[] zFactors = new int[CAPACITY];
    private final int[] rightSides = new int[CAPACITY];
    private final boolean[] equalities = new boolean[CAPACITY];
    private int held;

    public OmegaDesk() {
        held = 0;
    }

    public int add(int a, int b, int c, int d, boolean equal) {
        if (held >= CAPACITY || !inRange(a, b, c, d)) {
            return REFUSED;
        }
        xFactors[held] = a;
        yFactors[held] = b;
        zFactors[held] = c;
        rightSides[held] = d;
        equalities[held] = equal;
        held++;
        return held;
    }

    public int drop(int number) {
        if (number < 0 || number >= held) {
            return REFUSED;
        }
        for (int to = number; to < held - 1; to++) {
            int from = to + 1;
            xFactors[to] = xFactors[from];
            yFactors[to] = yFactors[from];
            zFactors[to] = zFactors[from];
            rightSides[to] = rightSides[from];
            equalities[to] = equalities[from];
        }
        held--;
        return held;
    }

    public int possible() {
        return firstSolution() < ROWS ? 1 : 0;
    }

    public int first(int place) {
        if (!isVariable(place)) {
            return NO_VALUE;
        }
        int row = firstSolution();
        return row < ROWS ? valueAt(row, place) : NO_VALUE;
    }

    public int extreme(int variable, boolean greatest) {
        if (!isVariable(variable)) {
            return NO_VALUE;
        }
        int best = NO_VALUE;
        for (int row = 0; row < ROWS; row++) {
            if (isSolution(row)) {
                int value = valueAt(row, variable);
                boolean better = greatest ? value > best : value < best;
                if (best == NO_VALUE || better) {
                    best = value;
                }
            }
        }
        return best;
    }

    public int with(int variable, int value) {
        if (!isVariable(variable)) {
            return 0;
        }
        for (int row = 0; row < ROWS; row++) {
            if (valueAt(row, variable) == value && isSolution(row)) {
                return 1;
            }
        }
        return 0;
    }

    public int follows(int a, int b, int c, int d) {
        if (!inRange(a, b, c, d)) {
            return REFUSED;
        }
        for (int row = 0; row < ROWS; row++) {
            if (leftSide(a, b, c, row) > d && isSolution(row)) {
                return 0;
            }
        }
        return 1;
    }

    public int spare() {
        int found = 0;
        for (int number = 0; number < held; number++) {
            if (followsFromOthers(number)) {
                found++;
            }
        }
        return found;
    }

    private boolean followsFromOthers(int number) {
        for (int row = 0; row < ROWS; row++) {
            if (!meets(row, number) && meetsAllBut(row, number)) {
                return false;
            }
        }
        return true;
    }

    /** ROWS if there is no solution. */
    private int firstSolution() {
        for (int row = 0; row < ROWS; row++) {
            if (isSolution(row)) {
                return row;
            }
        }
        return ROWS;
    }

    /** Doesn't go by way of meetsAllBut, since calls would then go more than six deep. */
    private boolean isSolution(int row) {
        for (int number = 0; number < held; number++) {
            if (!meets(row, number)) {
                return false;
            }
        }
        return true;
    }

    private boolean meetsAllBut(int row, int skipped) {
        for (int number = 0; number < held; number++) {
            if (number != skipped && !meets(row, number)) {
                return false;
            }
        }
        return true;
    }

    private boolean meets(int row, int number) {
        int left = leftSide(xFactors[number], yFactors[number], zFactors[number], row);
        return equalities[number] ? left == rightSides[number] : left <= rightSides[number];
    }

    private static int leftSide(int a, int b, int c, int row) {
        return a * valueAt(row, 0) + b * valueAt(row, 1) + c * valueAt(row, 2);
    }

    private static int valueAt(int row, int variable) {
        if (variable == 0) {
            return row / (SPAN * SPAN) + LEAST;
        }
        if (variable == 1) {
            return row / SPAN % SPAN + LEAST;
        }
        return row % SPAN + LEAST;
    }

    private static boolean isVariable(int variable) {
        return variable >= 0 && variable < VARIABLES;
    }

    private static boolean inRange(int a, int b, int c, int d) {
        return isFactor(a) && isFactor(b) && isFactor(c)
            && d >= -RIGHT_SIDE_BOUND && d <= RIGHT_SIDE_BOUND;
    }

    private static boolean isFactor(int factor) {
        return factor >= -FACTOR_BOUND && factor <= FACTOR_BOUND;
    }
}
