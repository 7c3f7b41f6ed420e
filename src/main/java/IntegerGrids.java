/** Grids of points spanned by up to four rows of three whole numbers each. */
public final class IntegerGrids {
    public static final int BAD_ARG = -1;
    public static final int FULL = -2;
    public static final int NONE = -1000000;

    private static final int MAX_ROWS = 4;
    private static final int COLUMNS = 3;
    private static final int CELLS = 12;
    private static final int BASIS_CELLS = 9;
    private static final int MAX_CELL = 9;
    private static final int MAX_HAS = 5000;
    private static final int MAX_ORDER = 100;
    private static final int MAX_COUNT = 8;
    // Keeps every answer of set apart from BAD_ARG; the document names it.
    private static final int SET_OFFSET = 100;
    private static final int NO_ROW = -1;
    // A row's squared length is at most 3 * 81, so the shortest point's is not
    // above it, and none of its numbers is 16 or more away from 0.
    private static final int MAX_ROW_SQUARE = 243;
    private static final int REACH = 15;
    // Euclid's steps on numbers of 64 bits are fewer than 100.
    private static final int EUCLID_LIMIT = 1000;

    // Number c of row r is at 3 * r + c.
    private final int[] cells = new int[CELLS];
    private int rowCount;

    // Rows that span the grid anew, one for each place: row i begins with i
    // zeros and has step(i) at place i, or is all zeros if step(i) is NONE.
    private final long[] basis = new long[BASIS_CELLS];
    // What is left of a row or a point while basis rows are taken from it.
    private final long[] rest = new long[COLUMNS];

    private int leastSquare;
    private int leastSquarePoints;

    public IntegerGrids() {
        rowCount = 0;
        leastSquare = NONE;
        leastSquarePoints = NONE;
    }

    public int add(int x, int y, int z) {
        if (!allWithin(x, y, z, MAX_CELL)) {
            return BAD_ARG;
        }
        if (rowCount >= MAX_ROWS) {
            return FULL;
        }
        int first = COLUMNS * rowCount;
        cells[first] = x;
        cells[first + 1] = y;
        cells[first + 2] = z;
        rowCount++;
        return rowCount - 1;
    }

    public int remove() {
        if (rowCount == 0) {
            return NONE;
        }
        rowCount--;
        return rowCount;
    }

    public int set(int r, int c, int v) {
        if (!isRow(r) || !isColumn(c) || !within(v, MAX_CELL)) {
            return BAD_ARG;
        }
        int place = COLUMNS * r + c;
        int before = cells[place];
        cells[place] = v;
        return before + SET_OFFSET;
    }

    public int swap(int c, int d) {
        if (!isColumn(c) || !isColumn(d)) {
            return BAD_ARG;
        }
        for (int r = 0; r < rowCount; r++) {
            int first = COLUMNS * r;
            int kept = cells[first + c];
            cells[first + c] = cells[first + d];
            cells[first + d] = kept;
        }
        return rowCount;
    }

    public int rows() {
        return rowCount;
    }

    public int rank() {
        spanWithout(NO_ROW);
        int found = 0;
        for (int c = 0; c < COLUMNS; c++) {
            if (stepAt(c) != 0) {
                found++;
            }
        }
        return found;
    }

    public int divisor(int k) {
        switch (k) {
            case 0:
                return 1;
            case 1:
                return divisorOfNumbers();
            case 2:
                return divisorOfPairs();
            case 3:
                return divisorOfTriples();
            default:
                return BAD_ARG;
        }
    }

    public int shape(int k) {
        if (k < 1 || k > COLUMNS) {
            return NONE;
        }
        int here = divisor(k);
        int below = divisor(k - 1);
        // D(k) is 0 exactly for the k above the rank.
        if (here == 0 || below == 0) {
            return NONE;
        }
        return here / below;
    }

    public boolean has(int x, int y, int z) {
        if (!allWithin(x, y, z, MAX_HAS)) {
            return false;
        }
        spanWithout(NO_ROW);
        return contains(x, y, z);
    }

    public int order(int x, int y, int z) {
        if (!allWithin(x, y, z, MAX_ORDER)) {
            return BAD_ARG;
        }
        spanWithout(NO_ROW);
        return leastMultiple(x, y, z);
    }

    public int step(int c) {
        if (!isColumn(c)) {
            return BAD_ARG;
        }
        spanWithout(NO_ROW);
        if (stepAt(c) == 0) {
            return NONE;
        }
        return (int) stepAt(c);
    }

    public int corner(int i, int c) {
        if (!isColumn(i) || !isColumn(c)) {
            return BAD_ARG;
        }
        spanWithout(NO_ROW);
        if (stepAt(i) == 0) {
            return NONE;
        }
        return (int) basis[COLUMNS * i + c];
    }

    public int count(int n) {
        if (n < 0 || n > MAX_COUNT) {
            return BAD_ARG;
        }
        spanWithout(NO_ROW);
        int found = 0;
        for (int x = 0; x < n; x++) {
            for (int y = 0; y < n; y++) {
                for (int z = 0; z < n; z++) {
                    if (contains(x, y, z)) {
                        found++;
                    }
                }
            }
        }
        return found;
    }

    public boolean spare(int r) {
        if (!isRow(r)) {
            return false;
        }
        spanWithout(r);
        int first = COLUMNS * r;
        return contains(cells[first], cells[first + 1], cells[first + 2]);
    }

    public int shortest() {
        spanWithout(NO_ROW);
        findShortest();
        return leastSquare;
    }

    public int shortestPoints() {
        spanWithout(NO_ROW);
        findShortest();
        return leastSquarePoints;
    }

    private boolean isRow(int r) {
        return r >= 0 && r < rowCount;
    }

    private static boolean isColumn(int c) {
        return c >= 0 && c < COLUMNS;
    }

    private static boolean within(int v, int most) {
        return v >= -most && v <= most;
    }

    private static boolean allWithin(int x, int y, int z, int most) {
        return within(x, most) && within(y, most) && within(z, most);
    }

    private static int gcd(int a, int b) {
        int g = a < 0 ? -a : a;
        int h = b < 0 ? -b : b;
        for (int i = 0; i < EUCLID_LIMIT && h != 0; i++) {
            int left = g % h;
            g = h;
            h = left;
        }
        return g;
    }

    private int divisorOfNumbers() {
        int g = 0;
        for (int i = 0; i < COLUMNS * rowCount; i++) {
            g = gcd(g, cells[i]);
        }
        return g;
    }

    private int divisorOfPairs() {
        int g = 0;
        for (int q = 0; q < rowCount; q++) {
            for (int r = q + 1; r < rowCount; r++) {
                int xy = pairMinor(q, r, 0, 1);
                int xz = pairMinor(q, r, 0, 2);
                int yz = pairMinor(q, r, 1, 2);
                g = gcd(g, xy);
                g = gcd(g, xz);
                g = gcd(g, yz);
            }
        }
        return g;
    }

    private int divisorOfTriples() {
        int g = 0;
        for (int p = 0; p < rowCount; p++) {
            for (int q = p + 1; q < rowCount; q++) {
                for (int r = q + 1; r < rowCount; r++) {
                    int minor = tripleMinor(p, q, r);
                    g = gcd(g, minor);
                }
            }
        }
        return g;
    }

    private int pairMinor(int q, int r, int c, int d) {
        int upper = COLUMNS * q;
        int lower = COLUMNS * r;
        return cells[upper + c] * cells[lower + d] - cells[upper + d] * cells[lower + c];
    }

    private int tripleMinor(int p, int q, int r) {
        int first = COLUMNS * p;
        int yz = pairMinor(q, r, 1, 2);
        int xz = pairMinor(q, r, 0, 2);
        int xy = pairMinor(q, r, 0, 1);
        return cells[first] * yz - cells[first + 1] * xz + cells[first + 2] * xy;
    }

    private long stepAt(int c) {
        return basis[COLUMNS * c + c];
    }

    /** Makes the basis of what all rows but one span; NO_ROW leaves none out. */
    private void spanWithout(int leftOut) {
        for (int i = 0; i < BASIS_CELLS; i++) {
            basis[i] = 0;
        }
        for (int r = 0; r < rowCount; r++) {
            if (r != leftOut) {
                takeIn(r);
                // After every row, so that the numbers never grow large.
                bringIntoRange();
            }
        }
    }

    private void takeIn(int r) {
        for (int c = 0; c < COLUMNS; c++) {
            rest[c] = cells[COLUMNS * r + c];
        }
        for (int c = 0; c < COLUMNS; c++) {
            clearPlace(c);
        }
    }

    /** Euclid's steps between basis row c and the rest, until the rest has 0 at place c. */
    private void clearPlace(int c) {
        int first = COLUMNS * c;
        for (int i = 0; i < EUCLID_LIMIT && rest[c] != 0; i++) {
            long times = basis[first + c] / rest[c];
            for (int d = c; d < COLUMNS; d++) {
                long left = basis[first + d] - times * rest[d];
                basis[first + d] = rest[d];
                rest[d] = left;
            }
        }
    }

    /** Gives the basis the signs and ranges that the corners have. */
    private void bringIntoRange() {
        for (int i = COLUMNS - 1; i >= 0; i--) {
            makeStepPositive(i);
            for (int c = i + 1; c < COLUMNS; c++) {
                reduceNumber(i, c);
            }
        }
    }

    private void makeStepPositive(int i) {
        if (stepAt(i) < 0) {
            for (int c = i; c < COLUMNS; c++) {
                basis[COLUMNS * i + c] = -basis[COLUMNS * i + c];
            }
        }
    }

    private void reduceNumber(int i, int c) {
        long step = stepAt(c);
        if (step == 0) {
            return;
        }
        long number = basis[COLUMNS * i + c];
        long times = number / step;
        // Java's division goes towards 0, but the remainder must not be below 0.
        if (times * step > number) {
            times--;
        }
        for (int d = c; d < COLUMNS; d++) {
            basis[COLUMNS * i + d] -= times * basis[COLUMNS * c + d];
        }
    }

    private void putRest(int x, int y, int z) {
        rest[0] = x;
        rest[1] = y;
        rest[2] = z;
    }

    private void takeFromRest(int c, long times) {
        for (int d = c; d < COLUMNS; d++) {
            rest[d] -= times * basis[COLUMNS * c + d];
        }
    }

    /** Whether the grid of the basis has the point. */
    private boolean contains(int x, int y, int z) {
        putRest(x, y, z);
        for (int c = 0; c < COLUMNS; c++) {
            long step = stepAt(c);
            if (rest[c] != 0) {
                if (step == 0 || rest[c] % step != 0) {
                    return false;
                }
                takeFromRest(c, rest[c] / step);
            }
        }
        return true;
    }

    /** The least multiple of the point that the grid of the basis has, place by place. */
    private int leastMultiple(int x, int y, int z) {
        putRest(x, y, z);
        long multiple = 1;
        for (int c = 0; c < COLUMNS; c++) {
            long step = stepAt(c);
            if (rest[c] != 0) {
                if (step == 0) {
                    return NONE;
                }
                long factor = 1;
                while (factor < step && factor * rest[c] % step != 0) {
                    factor++;
                }
                multiple *= factor;
                multiplyRest(factor);
                takeFromRest(c, rest[c] / step);
            }
        }
        return (int) multiple;
    }

    private void multiplyRest(long factor) {
        for (int c = 0; c < COLUMNS; c++) {
            rest[c] *= factor;
        }
    }

    /** Finds the shortest points of the grid of the basis, and counts them. */
    private void findShortest() {
        leastSquare = MAX_ROW_SQUARE;
        leastSquarePoints = 0;
        for (int x = -REACH; x <= REACH; x++) {
            for (int y = -REACH; y <= REACH; y++) {
                for (int z = -REACH; z <= REACH; z++) {
                    compareWithShortest(x, y, z);
                }
            }
        }
        if (leastSquarePoints == 0) {
            leastSquare = NONE;
            leastSquarePoints = NONE;
        }
    }

    private void compareWithShortest(int x, int y, int z) {
        int square = x * x + y * y + z * z;
        if (square == 0 || square > leastSquare || !contains(x, y, z)) {
            return;
        }
        if (square < leastSquare) {
            leastSquare = square;
            leastSquarePoints = 0;
        }
        leastSquarePoints++;
    }
}
