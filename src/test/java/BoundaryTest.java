import java.util.IdentityHashMap;
import java.util.Map;

// One method for each sentence of the document that names a boundary case, in the document's order, with the sentence
// above it: the last values inside a range, the first outside, the least and the greatest int, no rows and 4 rows.
// After every refused call all later answers are compared with those of an object on which it was not made.
public final class BoundaryTest {
    private static final int BAD_ARG = -1;
    private static final int FULL = -2;
    private static final int NONE = -1000000;
    private static final int LEAST = Integer.MIN_VALUE;
    private static final int GREATEST = Integer.MAX_VALUE;
    private static final long TRUE = 1;
    private static final long FALSE = 0;

    // Objects of every size and rank: the rows one after another.
    private static final int[] NO_ROWS = {};
    private static final int[] ZERO_ROW = {0, 0, 0};
    private static final int[] LINE = {2, -4, 6};
    private static final int[] PLANE = {3, 0, -9, -9, 9, 1};
    private static final int[] SPACE = {2, 4, 4, -6, 6, 9, 8, -2, 7};
    private static final int[] THREE_IN_A_PLANE = {1, 2, 3, 4, 5, 6, 7, 8, 9};
    private static final int[] ALL_POINTS = {1, 0, 0, 0, 1, 0, 0, 0, 1};
    private static final int[] FOUR_ZERO_ROWS = {0, 0, 0, 0, 0, 0, 0, 0, 0, 0, 0, 0};
    private static final int[] FOUR_IN_A_LINE = {4, 0, 0, 6, 0, 0, -2, 0, 0, 0, 0, 0};
    private static final int[] FOUR_IN_A_PLANE = {1, 1, 0, 0, 1, 1, 1, 2, 1, 1, 0, -1};
    private static final int[] FOUR_IN_SPACE = {9, 9, 9, -9, 9, -9, 9, -9, -9, 1, -9, 8};
    private static final int[][] OBJECTS = {NO_ROWS, ZERO_ROW, LINE, PLANE, SPACE, THREE_IN_A_PLANE, ALL_POINTS,
        FOUR_ZERO_ROWS, FOUR_IN_A_LINE, FOUR_IN_A_PLANE, FOUR_IN_SPACE};
    private static final int[] RANKS = {0, 0, 1, 2, 3, 2, 3, 0, 1, 2, 3};

    private static final Map<int[], long[]> LATER_ANSWERS = new IdentityHashMap<>();
    private static int wrong = 0;

    // ---- calls and what is due ----

    private static long call(IntegerGrids x, String name, int... a) {
        return switch (name) {
            case "add" -> x.add(a[0], a[1], a[2]);
            case "remove" -> x.remove();
            case "set" -> x.set(a[0], a[1], a[2]);
            case "swap" -> x.swap(a[0], a[1]);
            case "rows" -> x.rows();
            case "rank" -> x.rank();
            case "divisor" -> x.divisor(a[0]);
            case "shape" -> x.shape(a[0]);
            case "has" -> x.has(a[0], a[1], a[2]) ? TRUE : FALSE;
            case "order" -> x.order(a[0], a[1], a[2]);
            case "step" -> x.step(a[0]);
            case "corner" -> x.corner(a[0], a[1]);
            case "count" -> x.count(a[0]);
            case "spare" -> x.spare(a[0]) ? TRUE : FALSE;
            case "shortest" -> x.shortest();
            case "shortestPoints" -> x.shortestPoints();
            default -> throw new IllegalArgumentException(name);
        };
    }

    private static String list(int... numbers) {
        StringBuilder text = new StringBuilder("(");
        for (int i = 0; i < numbers.length; i++) {
            text.append(i == 0 ? "" : ", ").append(numbers[i]);
        }
        return text.append(")").toString();
    }

    private static void tell(String what) {
        wrong++;
        if (wrong <= 100) {
            System.out.println(what);
        }
    }

    private static void due(IntegerGrids x, long want, String name, int... a) {
        long got = call(x, name, a);
        if (got != want) {
            tell(name + list(a) + " answered " + got + ", due is " + want);
        }
    }

    private static void dueOf(int[] rows, long want, String name, int... a) {
        long got = call(grid(rows), name, a);
        if (got != want) {
            tell("rows " + list(rows) + ": " + name + list(a) + " answered " + got + ", due is " + want);
        }
    }

    private static IntegerGrids grid(int... numbers) {
        IntegerGrids made = new IntegerGrids();
        for (int i = 0; i < numbers.length; i += 3) {
            due(made, i / 3, "add", numbers[i], numbers[i + 1], numbers[i + 2]);
        }
        return made;
    }

    // Setting a number to what it is held to be answers it and changes nothing.
    private static void dueRows(IntegerGrids x, int... numbers) {
        due(x, numbers.length / 3, "rows");
        for (int i = 0; i < numbers.length; i++) {
            due(x, numbers[i] + 100, "set", i / 3, i % 3, numbers[i]);
        }
    }

    // The first values outside on both sides, the least and the greatest int, and values that would be inside again
    // if they were kept in fewer bits, taken without their sign, or multiplied by the three numbers of a row.
    private static int[] outside(int low, int high) {
        return new int[] {low - 1, high + 1, LEAST, LEAST + 1, GREATEST, GREATEST - 1, low - 256, high + 256,
            low - 65536, high + 65536, 1 << 30, -(1 << 30), 0x55555555, 0x55555556, 0xAAAAAAAA, 0xAAAAAAAB};
    }

    // ---- refused calls ----

    private static final class Answers {
        private final long[] list = new long[512];
        private int many = 0;

        private void take(IntegerGrids x, String name, int... a) {
            list[many++] = call(x, name, a);
        }
    }

    private static void askAll(IntegerGrids x, Answers all) {
        all.take(x, "rows");
        all.take(x, "rank");
        for (int i = 0; i <= 3; i++) {
            all.take(x, "divisor", i);
            all.take(x, "shape", i);
            all.take(x, "step", i);
            all.take(x, "spare", i);
        }
        for (int i = 0; i < 9; i++) {
            all.take(x, "corner", i / 3, i % 3);
            all.take(x, "count", i);
        }
        int[][] points = {{0, 0, 0}, {1, 0, 0}, {0, 1, 0}, {0, 0, 1}, {2, -4, 6}, {5, -5, 4}, {1, 2, 3}, {90, 36, -9}};
        for (int[] p : points) {
            all.take(x, "has", p);
            all.take(x, "order", p);
        }
        all.take(x, "shortest");
        all.take(x, "shortestPoints");
    }

    // Every question, then every kind of change with the questions again.
    private static long[] laterAnswers(IntegerGrids x) {
        Answers all = new Answers();
        askAll(x, all);
        for (int i = 0; i < 12; i++) {
            int r = i / 3;
            int before = x.set(r, i % 3, 0);
            all.list[all.many++] = before;
            all.take(x, "set", r, i % 3, before - 100);
        }
        all.take(x, "swap", 0, 2);
        askAll(x, all);
        all.take(x, "add", 7, -8, 9);
        askAll(x, all);
        for (int i = 0; i < 5; i++) {
            all.take(x, "remove");
            all.take(x, "divisor", 1);
        }
        all.take(x, "add", -1, 5, 9);
        askAll(x, all);
        return all.list;
    }

    // "A refused call answers the code named and changes nothing."
    private static void refused(int[] rows, long code, String name, int... a) {
        IntegerGrids x = grid(rows);
        String text = "rows " + list(rows) + ": " + name + list(a);
        long got = call(x, name, a);
        if (got != code) {
            tell(text + " answered " + got + ", due is " + code);
        }
        long[] want = LATER_ANSWERS.computeIfAbsent(rows, key -> laterAnswers(grid(key)));
        long[] later = laterAnswers(x);
        for (int i = 0; i < want.length; i++) {
            if (later[i] != want[i]) {
                tell("after " + text + " a later answer (" + i + ") was " + later[i] + ", due is " + want[i]);
                return;
            }
        }
    }

    private static int sizeOf(int[] rows) {
        return rows.length / 3;
    }

    // ---- the public face and the terms ----

    // "BAD_ARG = -1", "FULL = -2", "NONE = -1000000"
    private static void constants() {
        if (IntegerGrids.BAD_ARG != BAD_ARG || IntegerGrids.FULL != FULL || IntegerGrids.NONE != NONE) {
            tell("a constant is not as due");
        }
    }

    // "An object is used for at most 512 calls after it has been made"
    private static void theLastOf512Calls() {
        IntegerGrids x = new IntegerGrids();
        for (int calls = 0; calls < 512; calls += 16) {
            due(x, 0, "add", 1, 0, 0);
            due(x, 1, "add", 0, 2, 0);
            due(x, 2, "add", 0, 0, 3);
            due(x, 6, "order", 1, 1, 1);
            due(x, 96, "count", 8);
            due(x, 3, "add", 1, 1, 1);
            due(x, FULL, "add", 1, 1, 1);
            due(x, 1, "divisor", 3);
            due(x, 3, "remove");
            due(x, 6, "divisor", 3);
            due(x, 1, "shortest");
            due(x, 2, "remove");
            due(x, 1, "remove");
            due(x, 0, "remove");
            due(x, NONE, "remove");
            due(x, 0, "rows");
        }
    }

    // "There are 0 to 4 rows"
    private static void zeroToFourRows() {
        IntegerGrids x = new IntegerGrids();
        for (int round = 0; round < 3; round++) {
            for (int n = 0; n < 4; n++) {
                due(x, n, "rows");
                due(x, n, "add", n, round, -n);
            }
            due(x, 4, "rows");
            due(x, FULL, "add", 0, 0, 0);
            due(x, 4, "rows");
            for (int n = 3; n >= 0; n--) {
                due(x, n, "remove");
                due(x, n, "rows");
            }
            due(x, NONE, "remove");
            due(x, 0, "rows");
        }
    }

    // "each of three whole numbers (x, y, z) from -9 to 9"
    private static void numbersFromMinusNineToNine() {
        for (int v = -9; v <= 9; v++) {
            IntegerGrids x = grid(v, 0, 0, 0, v, 0, 0, 0, v, v, v, v);
            dueRows(x, v, 0, 0, 0, v, 0, 0, 0, v, v, v, v);
            due(x, v < 0 ? -v : v, "divisor", 1);
        }
        IntegerGrids ends = grid(-9, -9, -9, 9, 9, 9, -9, 9, -9, 9, -9, 9);
        dueRows(ends, -9, -9, -9, 9, 9, 9, -9, 9, -9, 9, -9, 9);
    }

    // "numbered 0, 1, .. in the order in which they were added"
    private static void numberedInTheirOrder() {
        IntegerGrids x = grid(1, 1, 1, 2, 2, 2, 3, 3, 3, 4, 4, 4);
        dueRows(x, 1, 1, 1, 2, 2, 2, 3, 3, 3, 4, 4, 4);
        due(x, 3, "remove");
        due(x, 2, "remove");
        due(x, 2, "add", 5, 5, 5);
        dueRows(x, 1, 1, 1, 2, 2, 2, 5, 5, 5);
    }

    // "without rows it has (0, 0, 0) only"
    private static void theGridWithoutRows() {
        onlyTheZeroPoint(new IntegerGrids());
        IntegerGrids emptied = grid(1, 0, 0, 0, 1, 0, 0, 0, 1, 1, 1, 1);
        for (int n = 3; n >= 0; n--) {
            due(emptied, n, "remove");
        }
        onlyTheZeroPoint(emptied);
    }

    private static void onlyTheZeroPoint(IntegerGrids x) {
        for (int i = 0; i < 125; i++) {
            due(x, i == 62 ? TRUE : FALSE, "has", i / 25 - 2, i / 5 % 5 - 2, i % 5 - 2);
        }
        for (int v : new int[] {-5000, -100, 100, 5000}) {
            due(x, FALSE, "has", v, 0, 0);
            due(x, FALSE, "has", 0, v, 0);
            due(x, FALSE, "has", 0, 0, v);
        }
        due(x, 0, "count", 0);
        for (int n = 1; n <= 8; n++) {
            due(x, 1, "count", n);
        }
    }

    // "The RANK is the least number of rows (of any whole numbers) that span the same grid."
    private static void rankAtItsEnds() {
        for (int i = 0; i < OBJECTS.length; i++) {
            dueOf(OBJECTS[i], RANKS[i], "rank");
        }
    }

    // "D(k) is .. 0 if they are all 0"
    private static void divisorWhereAllMinorsAreZero() {
        dueOf(ZERO_ROW, 0, "divisor", 1);
        for (int k = 1; k <= 3; k++) {
            dueOf(FOUR_ZERO_ROWS, 0, "divisor", k);
        }
        dueOf(new int[] {2, -4, 6, -3, 6, -9}, 0, "divisor", 2);
        dueOf(FOUR_IN_A_LINE, 0, "divisor", 2);
        dueOf(FOUR_IN_A_LINE, 0, "divisor", 3);
        dueOf(THREE_IN_A_PLANE, 0, "divisor", 3);
        dueOf(FOUR_IN_A_PLANE, 0, "divisor", 3);
    }

    // "D(k) is .. 0 if .. there are none"
    private static void divisorWhereThereAreNoMinors() {
        for (int k = 1; k <= 3; k++) {
            dueOf(NO_ROWS, 0, "divisor", k);
        }
        dueOf(LINE, 0, "divisor", 2);
        dueOf(LINE, 0, "divisor", 3);
        dueOf(PLANE, 0, "divisor", 3);
        // Minors of rows that have been taken away again count no more.
        IntegerGrids x = grid(1, 0, 0, 0, 1, 0, 0, 0, 1);
        for (int k = 3; k > 0; k--) {
            due(x, 1, "divisor", k);
            due(x, k - 1, "remove");
            due(x, 0, "divisor", k);
        }
    }

    // "D(0) is 1"
    private static void divisorOfSizeZero() {
        for (int[] rows : OBJECTS) {
            dueOf(rows, 1, "divisor", 0);
        }
    }

    // "No call ever throws."
    private static void noCallThrows() {
        int[] some = {LEAST, NONE, -5001, -101, -10, -1, 0, 1, 2, 3, 4, 9, 10, 5000, GREATEST};
        for (int[] rows : OBJECTS) {
            for (int a : some) {
                for (String name : new String[] {"add", "set", "has", "order"}) {
                    IntegerGrids x = grid(rows);
                    for (int i = 0; i < some.length * some.length; i++) {
                        doesNotThrow(x, name, a, some[i / some.length], some[i % some.length]);
                    }
                }
                IntegerGrids x = grid(rows);
                for (int b : some) {
                    doesNotThrow(x, "swap", a, b);
                    doesNotThrow(x, "corner", a, b);
                }
                for (String name : new String[] {"divisor", "shape", "step", "count", "spare"}) {
                    doesNotThrow(x, name, a);
                }
            }
            IntegerGrids x = grid(rows);
            for (int i = 0; i < 6; i++) {
                for (String name : new String[] {"rows", "rank", "shortest", "shortestPoints", "remove"}) {
                    doesNotThrow(x, name);
                }
            }
        }
    }

    private static void doesNotThrow(IntegerGrids x, String name, int... a) {
        try {
            call(x, name, a);
        } catch (Throwable thrown) {
            tell(name + list(a) + " threw " + thrown);
        }
    }

    // ---- the promises ----

    // Promise 1: "No row."
    private static void newObject() {
        IntegerGrids other = grid(FOUR_IN_SPACE);
        IntegerGrids x = new IntegerGrids();
        due(x, 0, "rows");
        due(x, 0, "rank");
        due(x, BAD_ARG, "set", 0, 0, 0);
        due(x, FALSE, "spare", 0);
        due(x, 0, "swap", 0, 1);
        due(x, NONE, "remove");
        due(x, 0, "add", 1, 2, 3);
        dueRows(other, FOUR_IN_SPACE);
    }

    // Promise 2: "x, y or z not -9 to 9 answers BAD_ARG"
    private static void addOutOfRange() {
        for (int[] rows : OBJECTS) {
            for (int v : outside(-9, 9)) {
                refused(rows, BAD_ARG, "add", v, 0, 0);
                refused(rows, BAD_ARG, "add", 0, v, 0);
                refused(rows, BAD_ARG, "add", 0, 0, v);
                refused(rows, BAD_ARG, "add", v, v, v);
            }
            refused(rows, BAD_ARG, "add", 10, -10, 0);
            refused(rows, BAD_ARG, "add", LEAST, 9, GREATEST);
        }
    }

    // Promise 2: "Tested in this order: .. BAD_ARG; FULL."
    private static void addToFourRows() {
        for (int[] rows : OBJECTS) {
            if (sizeOf(rows) == 4) {
                refused(rows, FULL, "add", 0, 0, 0);
                refused(rows, FULL, "add", 9, 9, 9);
                refused(rows, FULL, "add", -9, -9, -9);
                refused(rows, BAD_ARG, "add", 10, 0, 0);
                refused(rows, BAD_ARG, "add", 0, -10, 0);
                refused(rows, BAD_ARG, "add", 0, 0, LEAST);
            }
        }
    }

    // Promise 2: "Otherwise its number."
    private static void addWithRoom() {
        for (int[] rows : OBJECTS) {
            if (sizeOf(rows) < 4) {
                dueOf(rows, sizeOf(rows), "add", -9, 9, -9);
                dueOf(rows, sizeOf(rows), "add", 9, -9, 9);
                dueOf(rows, sizeOf(rows), "add", 0, 0, 0);
            }
        }
    }

    // Promise 3: "NONE if there is none."
    private static void removeWithoutRows() {
        refused(NO_ROWS, NONE, "remove");
        IntegerGrids x = grid(LINE);
        due(x, 0, "remove");
        due(x, NONE, "remove");
        due(x, NONE, "remove");
        due(x, 0, "rows");
        due(x, 0, "add", 1, 2, 3);
        dueRows(x, 1, 2, 3);
    }

    // Promise 3: "Removes the last row. .. Otherwise its number."
    private static void removeDownToNoRow() {
        IntegerGrids x = grid(9, -9, 9, 4, 5, 6, -7, -8, -9, 1, 2, 3);
        due(x, 3, "remove");
        dueRows(x, 9, -9, 9, 4, 5, 6, -7, -8, -9);
        due(x, 2, "remove");
        dueRows(x, 9, -9, 9, 4, 5, 6);
        due(x, 1, "remove");
        dueRows(x, 9, -9, 9);
        due(x, 0, "remove");
        dueRows(x);
    }

    // Promise 4: "BAD_ARG if there is no row r"
    private static void setWithoutTheRow() {
        for (int[] rows : OBJECTS) {
            for (int r : outside(0, sizeOf(rows) - 1)) {
                for (int c = 0; c <= 2; c++) {
                    refused(rows, BAD_ARG, "set", r, c, 5);
                }
            }
        }
        IntegerGrids x = grid(1, 2, 3, 4, 5, 6);
        due(x, 1, "remove");
        due(x, BAD_ARG, "set", 1, 0, 7);
        due(x, 1, "add", 8, 8, 8);
        dueRows(x, 1, 2, 3, 8, 8, 8);
    }

    // Promise 4: "BAD_ARG if .. c is not 0 to 2"
    private static void setWithoutTheColumn() {
        for (int[] rows : OBJECTS) {
            for (int c : outside(0, 2)) {
                for (int r = 0; r < 4; r++) {
                    refused(rows, BAD_ARG, "set", r, c, 5);
                }
            }
        }
    }

    // Promise 4: "BAD_ARG if .. v not -9 to 9"
    private static void setOutOfRange() {
        for (int[] rows : OBJECTS) {
            for (int v : outside(-9, 9)) {
                refused(rows, BAD_ARG, "set", 0, 0, v);
                refused(rows, BAD_ARG, "set", 0, 2, v);
                refused(rows, BAD_ARG, "set", sizeOf(rows) - 1, 1, v);
                refused(rows, BAD_ARG, "set", v, v, v);
            }
        }
    }

    // Promise 4: "Otherwise what it was, plus 100."
    private static void setAtTheEndsOfItsRange() {
        IntegerGrids x = grid(FOUR_ZERO_ROWS);
        for (int i = 0; i < 12; i++) {
            due(x, 100, "set", i / 3, i % 3, -9);
            due(x, 91, "set", i / 3, i % 3, 9);
            due(x, 109, "set", i / 3, i % 3, -1);
            due(x, 99, "set", i / 3, i % 3, i - 9);
        }
        dueRows(x, -9, -8, -7, -6, -5, -4, -3, -2, -1, 0, 1, 2);
    }

    // Promise 5: "BAD_ARG if c or d is not 0 to 2."
    private static void swapOutOfRange() {
        for (int[] rows : OBJECTS) {
            for (int c : outside(0, 2)) {
                refused(rows, BAD_ARG, "swap", c, 0);
                refused(rows, BAD_ARG, "swap", c, 2);
                refused(rows, BAD_ARG, "swap", 0, c);
                refused(rows, BAD_ARG, "swap", 2, c);
                refused(rows, BAD_ARG, "swap", c, c);
            }
        }
    }

    // Promise 5: "The columns c and d change places in all rows. .. Otherwise the number of rows."
    private static void swapAtTheEnds() {
        for (int[] rows : OBJECTS) {
            for (int i = 0; i < 9; i++) {
                IntegerGrids x = grid(rows);
                due(x, sizeOf(rows), "swap", i / 3, i % 3);
                dueRows(x, swapped(rows, i / 3, i % 3));
            }
        }
        // Also the rows that come later keep their own order of numbers.
        IntegerGrids later = grid(1, 2, 3);
        due(later, 1, "swap", 0, 2);
        due(later, 1, "add", 4, 5, 6);
        dueRows(later, 3, 2, 1, 4, 5, 6);
    }

    private static int[] swapped(int[] rows, int c, int d) {
        int[] numbers = rows.clone();
        for (int first = 0; first < rows.length; first += 3) {
            numbers[first + c] = rows[first + d];
            numbers[first + d] = rows[first + c];
        }
        return numbers;
    }

    // Promise 6: "The number of rows."
    private static void rowsAtTheEnds() {
        for (int[] rows : OBJECTS) {
            dueOf(rows, sizeOf(rows), "rows");
        }
        IntegerGrids x = grid(FOUR_IN_SPACE);
        due(x, FULL, "add", 1, 1, 1);
        due(x, BAD_ARG, "set", 4, 0, 0);
        due(x, 4, "rows");
    }

    // Promise 7: "The rank."
    private static void rankAfterChanges() {
        IntegerGrids x = grid(FOUR_ZERO_ROWS);
        int[] want = {1, 2, 3, 3};
        for (int r = 0; r < 4; r++) {
            due(x, 100, "set", r, r % 3, r % 2 == 0 ? 9 : -9);
            due(x, want[r], "rank");
        }
        for (int n = 3; n >= 0; n--) {
            due(x, n, "remove");
            due(x, n, "rank");
        }
    }

    // Promise 8: "BAD_ARG if k is not 0 to 3."
    private static void divisorOutOfRange() {
        for (int[] rows : OBJECTS) {
            for (int k : outside(0, 3)) {
                refused(rows, BAD_ARG, "divisor", k);
            }
        }
    }

    // Promise 8: "D(k)", at the least and the greatest values it can have.
    private static void divisorAtItsEnds() {
        int[] greatest = {9, 9, 9, -9, 9, -9, 9, -9, -9};
        dueOf(greatest, 9, "divisor", 1);
        dueOf(greatest, 162, "divisor", 2);
        dueOf(greatest, 2916, "divisor", 3);
        dueOf(new int[] {9, 9, 9, 9, -9, -9, -9, 9, -9}, 2916, "divisor", 3);
        dueOf(new int[] {0, 0, -9}, 9, "divisor", 1);
        dueOf(new int[] {0, 9, 9, 0, -9, 9}, 162, "divisor", 2);
        for (int k = 1; k <= 3; k++) {
            dueOf(ALL_POINTS, 1, "divisor", k);
        }
    }

    // "D(k) is the greatest whole number that divides all minors of size k": each minor in turn is the only one not 0
    private static void divisorOfASingleMinor() {
        for (int place = 0; place < 12; place++) {
            int[] one = FOUR_ZERO_ROWS.clone();
            one[place] = -9;
            dueOf(one, 9, "divisor", 1);
            for (int other = place + 1; other < 12; other++) {
                if (other / 3 != place / 3 && other % 3 != place % 3) {
                    int[] two = one.clone();
                    two[other] = 7;
                    dueOf(two, 63, "divisor", 2);
                }
            }
        }
        dueOf(new int[] {0, 0, 0, 2, 0, 0, 0, 3, 0, 0, 0, 5}, 30, "divisor", 3);
        dueOf(new int[] {2, 0, 0, 0, 0, 0, 0, 3, 0, 0, 0, 5}, 30, "divisor", 3);
        dueOf(new int[] {2, 0, 0, 0, 3, 0, 0, 0, 0, 0, 0, 5}, 30, "divisor", 3);
        dueOf(new int[] {2, 0, 0, 0, 3, 0, 0, 0, 5, 0, 0, 0}, 30, "divisor", 3);
    }

    // Promise 9: "NONE for other k."
    private static void shapeForOtherK() {
        for (int i = 0; i < OBJECTS.length; i++) {
            for (int k : outside(1, RANKS[i])) {
                refused(OBJECTS[i], NONE, "shape", k);
            }
            for (int k = RANKS[i] + 1; k <= 4; k++) {
                refused(OBJECTS[i], NONE, "shape", k);
            }
        }
    }

    // Promise 9: "for k from 1 to the rank"
    private static void shapeFromOneToTheRank() {
        int[] greatest = {9, 9, 9, -9, 9, -9, 9, -9, -9};
        dueOf(greatest, 9, "shape", 1);
        dueOf(greatest, 18, "shape", 2);
        dueOf(greatest, 18, "shape", 3);
        dueOf(new int[] {9, -9, 8, 9, 8, -9, -9, -9, -9}, 2907, "shape", 3);
        dueOf(LINE, 2, "shape", 1);
        dueOf(FOUR_IN_A_LINE, 2, "shape", 1);
        dueOf(THREE_IN_A_PLANE, 1, "shape", 1);
        dueOf(THREE_IN_A_PLANE, 3, "shape", 2);
        dueOf(FOUR_IN_SPACE, 1, "shape", 1);
        dueOf(FOUR_IN_SPACE, 9, "shape", 2);
        dueOf(FOUR_IN_SPACE, 18, "shape", 3);
    }

    // Promise 10: "false if x, y or z is not -5000 to 5000"
    private static void hasOutOfRange() {
        for (int[] rows : OBJECTS) {
            for (int v : outside(-5000, 5000)) {
                refused(rows, FALSE, "has", v, 0, 0);
                refused(rows, FALSE, "has", 0, v, 0);
                refused(rows, FALSE, "has", 0, 0, v);
                refused(rows, FALSE, "has", v, v, v);
            }
        }
        // These are points of the grid, and only their size rules them out.
        dueOf(new int[] {3, 0, 0}, FALSE, "has", 5001, 0, 0);
        dueOf(new int[] {0, 3, 0}, FALSE, "has", 0, -5001, 0);
        dueOf(new int[] {9, -9, 9}, FALSE, "has", 5004, -5004, 5004);
    }

    // Promise 10: "-5000 to 5000", the last values inside
    private static void hasAtTheEnds() {
        for (int i = 0; i < 8; i++) {
            int x = i / 4 == 0 ? -5000 : 5000;
            int y = i / 2 % 2 == 0 ? -5000 : 5000;
            int z = i % 2 == 0 ? -5000 : 5000;
            dueOf(ALL_POINTS, TRUE, "has", x, y, z);
            dueOf(new int[] {5, 0, 0, 0, 8, 0, 0, 0, 4}, TRUE, "has", x, y, z);
            dueOf(new int[] {5, 0, 0, 0, 8, 0, 0, 0, 3}, FALSE, "has", x, y, z);
            dueOf(NO_ROWS, FALSE, "has", x, y, z);
        }
        dueOf(new int[] {1, -1, 1}, TRUE, "has", 5000, -5000, 5000);
        dueOf(new int[] {1, -1, 1}, FALSE, "has", 5000, -5000, 4999);
        dueOf(new int[] {8, -8, 8}, TRUE, "has", -5000, 5000, -5000);
        dueOf(new int[] {9, -9, 9}, FALSE, "has", -5000, 5000, -5000);
        dueOf(new int[] {9, -9, 9}, TRUE, "has", 4995, -4995, 4995);
        // A grid has D(3) times any point, however few points it has beside these.
        int[] sparse = {9, -9, 8, 9, 8, -9, -9, -9, -9};
        dueOf(sparse, TRUE, "has", 2907, -2907, 2907);
        dueOf(sparse, FALSE, "has", 2906, -2907, 2907);
    }

    // Promise 11: "BAD_ARG if x, y or z is not -100 to 100"
    private static void orderOutOfRange() {
        for (int[] rows : OBJECTS) {
            for (int v : outside(-100, 100)) {
                refused(rows, BAD_ARG, "order", v, 0, 0);
                refused(rows, BAD_ARG, "order", 0, v, 0);
                refused(rows, BAD_ARG, "order", 0, 0, v);
                refused(rows, BAD_ARG, "order", v, v, v);
            }
        }
    }

    // Promise 11: "-100 to 100", the last values inside
    private static void orderAtTheEnds() {
        for (int i = 0; i < 8; i++) {
            int x = i / 4 == 0 ? -100 : 100;
            int y = i / 2 % 2 == 0 ? -100 : 100;
            int z = i % 2 == 0 ? -100 : 100;
            dueOf(ALL_POINTS, 1, "order", x, y, z);
            dueOf(new int[] {8, 0, 0, 0, 9, 0, 0, 0, 5}, 18, "order", x, y, z);
            dueOf(FOUR_IN_A_LINE, NONE, "order", x, y, z);
            dueOf(NO_ROWS, NONE, "order", x, y, z);
        }
    }

    // Promise 11: "The least m >= 1"
    private static void orderIsOneOrMore() {
        for (int[] rows : OBJECTS) {
            dueOf(rows, 1, "order", 0, 0, 0);
        }
        dueOf(SPACE, 1, "order", 8, -2, 7);
        dueOf(SPACE, 1, "order", -8, 2, -7);
        // Twice the point has the x of a point of the grid, but not its y.
        dueOf(new int[] {2, 1, 0, 0, 3, 0}, 6, "order", 1, 0, 0);
        dueOf(new int[] {2, 0, 1, 0, 0, 3}, 6, "order", -1, 0, 0);
        dueOf(new int[] {0, 2, 1, 0, 0, 3}, 6, "order", 0, 1, 0);
        // No order is above shape(3), and this one is the same.
        dueOf(new int[] {9, -9, 8, 9, 8, -9, -9, -9, -9}, 2907, "order", 1, 1, 0);
        dueOf(new int[] {9, -9, 8, 9, 8, -9, -9, -9, -9}, 2907, "order", 100, -100, 99);
    }

    // Promise 11: "NONE if there is none"
    private static void orderWithoutOne() {
        refused(NO_ROWS, NONE, "order", 1, 0, 0);
        refused(NO_ROWS, NONE, "order", 0, 0, -1);
        refused(ZERO_ROW, NONE, "order", 0, 1, 0);
        refused(FOUR_ZERO_ROWS, NONE, "order", 100, 100, 100);
        refused(LINE, NONE, "order", 1, -2, 4);
        refused(FOUR_IN_A_LINE, NONE, "order", 1, 0, 1);
        refused(PLANE, NONE, "order", 0, 0, 1);
        refused(THREE_IN_A_PLANE, NONE, "order", 1, 0, 0);
        refused(FOUR_IN_A_PLANE, NONE, "order", 1, 1, 1);
    }

    // Promise 12: "BAD_ARG if c is not 0 to 2"
    private static void stepOutOfRange() {
        for (int[] rows : OBJECTS) {
            for (int c : outside(0, 2)) {
                refused(rows, BAD_ARG, "step", c);
            }
        }
    }

    // Promise 12: "NONE if there is none"
    private static void stepWithoutOne() {
        for (int c = 0; c <= 2; c++) {
            refused(NO_ROWS, NONE, "step", c);
            refused(ZERO_ROW, NONE, "step", c);
            refused(FOUR_ZERO_ROWS, NONE, "step", c);
        }
        refused(LINE, NONE, "step", 1);
        refused(LINE, NONE, "step", 2);
        refused(PLANE, NONE, "step", 2);
        refused(THREE_IN_A_PLANE, NONE, "step", 2);
        refused(FOUR_IN_A_LINE, NONE, "step", 1);
        dueOf(new int[] {0, 0, 7}, NONE, "step", 0);
        dueOf(new int[] {0, 0, 7}, NONE, "step", 1);
        dueOf(new int[] {0, 7, 0}, NONE, "step", 0);
        dueOf(new int[] {3, 0, 0, 0, 0, 2}, NONE, "step", 1);
    }

    // Promise 12: "The least x above 0", "the least y above 0", "the least z above 0"
    private static void stepIsAboveZero() {
        for (int c = 0; c <= 2; c++) {
            int[] one = {0, 0, 0};
            for (int v = 1; v <= 9; v++) {
                one[c] = v;
                dueOf(one, v, "step", c);
                one[c] = -v;
                dueOf(one, v, "step", c);
            }
            dueOf(ALL_POINTS, 1, "step", c);
        }
        dueOf(new int[] {-9, -9, -9, -8, 9, -9}, 153, "step", 1);
        dueOf(new int[] {-9, -9, -9, -8, -8, 9}, 153, "step", 2);
        dueOf(new int[] {-9, 7, 9, -8, 9, -9, -9, -9, -9}, 2898, "step", 2);
    }

    // Promise 13: "BAD_ARG if i or c is not 0 to 2"
    private static void cornerOutOfRange() {
        for (int[] rows : OBJECTS) {
            for (int v : outside(0, 2)) {
                for (int inside = 0; inside <= 2; inside++) {
                    refused(rows, BAD_ARG, "corner", v, inside);
                    refused(rows, BAD_ARG, "corner", inside, v);
                }
                refused(rows, BAD_ARG, "corner", v, v);
            }
        }
    }

    // Promise 13: "NONE if step(i) is NONE"
    private static void cornerWithoutOne() {
        for (int c = 0; c <= 2; c++) {
            for (int i = 0; i <= 2; i++) {
                refused(NO_ROWS, NONE, "corner", i, c);
                refused(FOUR_ZERO_ROWS, NONE, "corner", i, c);
            }
            refused(LINE, NONE, "corner", 1, c);
            refused(LINE, NONE, "corner", 2, c);
            refused(FOUR_IN_A_PLANE, NONE, "corner", 2, c);
            dueOf(new int[] {0, 5, 1}, NONE, "corner", 0, c);
            dueOf(new int[] {3, 1, 0, 0, 0, 2}, NONE, "corner", 1, c);
        }
    }

    private static void dueCorner(int[] rows, int i, int x, int y, int z) {
        dueOf(rows, x, "corner", i, 0);
        dueOf(rows, y, "corner", i, 1);
        dueOf(rows, z, "corner", i, 2);
    }

    // Promise 13: "from 0 to step - 1"
    private static void cornerAtTheEndsOfItsRange() {
        int[] low = {2, 3, 5, 0, 3, 5, 0, 0, 5};
        dueCorner(low, 0, 2, 0, 0);
        dueCorner(low, 1, 0, 3, 0);
        dueCorner(low, 2, 0, 0, 5);
        int[] negative = {-2, 3, 5, 0, -3, -5, 0, 0, -5};
        dueCorner(negative, 0, 2, 0, 0);
        dueCorner(negative, 1, 0, 3, 0);
        dueCorner(negative, 2, 0, 0, 5);
        int[] high = {2, -1, 0, 0, 3, -1, 0, 0, 5};
        dueCorner(high, 0, 2, 2, 4);
        dueCorner(high, 1, 0, 3, 4);
        dueCorner(high, 2, 0, 0, 5);
        int[] ones = {2, 7, -7, 0, 1, -9, 0, 0, 1, 9, 9, 9};
        dueCorner(ones, 0, 1, 0, 0);
        dueCorner(ones, 1, 0, 1, 0);
        dueCorner(ones, 2, 0, 0, 1);
    }

    // Promise 13: "where step(1) is NONE all such points have the same y, and the same holds for z and step(2)"
    private static void cornerWhereALaterStepIsNone() {
        dueCorner(new int[] {-9, 9, -9}, 0, 9, -9, 9);
        dueCorner(new int[] {9, -9, -9}, 0, 9, -9, -9);
        dueCorner(new int[] {0, -9, 9}, 1, 0, 9, -9);
        dueCorner(new int[] {2, -9, -1, 0, 0, 4}, 0, 2, -9, 3);
        dueCorner(new int[] {2, -9, -4, 0, 0, 4}, 0, 2, -9, 0);
        dueCorner(new int[] {-9, -9, 9, -9, -8, -9}, 0, 9, 0, 153);
        dueCorner(new int[] {-9, -9, -9, -9, -8, 9}, 0, 9, 0, -153);
        dueCorner(new int[] {-9, -9, -9, -8, -7, 9}, 1, 0, 9, 153);
        dueCorner(new int[] {-9, -9, -9, -8, -9, 9}, 1, 0, 9, -153);
    }

    // Promise 14: "BAD_ARG if n is not 0 to 8"
    private static void countOutOfRange() {
        for (int[] rows : OBJECTS) {
            for (int n : outside(0, 8)) {
                refused(rows, BAD_ARG, "count", n);
            }
        }
    }

    // Promise 14: "a, b and c from 0 to n - 1 each"
    private static void countAtTheEnds() {
        for (int[] rows : OBJECTS) {
            dueOf(rows, 0, "count", 0);
            dueOf(rows, 1, "count", 1);
        }
        for (int n = 1; n <= 8; n++) {
            dueOf(ALL_POINTS, n * n * n, "count", n);
        }
        for (int c = 0; c <= 2; c++) {
            int[] one = {0, 0, 0};
            one[c] = 7;
            dueOf(one, 1, "count", 7);
            dueOf(one, 2, "count", 8);
            one[c] = -7;
            dueOf(one, 2, "count", 8);
            one[c] = 8;
            dueOf(one, 1, "count", 8);
        }
        dueOf(new int[] {1, -1, 0}, 1, "count", 8);
        dueOf(new int[] {7, 7, 7}, 2, "count", 8);
    }

    // Promise 15: "false if there is no row r"
    private static void spareWithoutTheRow() {
        for (int[] rows : OBJECTS) {
            for (int r : outside(0, sizeOf(rows) - 1)) {
                refused(rows, FALSE, "spare", r);
            }
        }
        // A row that was spare and has been removed is no row any more.
        IntegerGrids x = grid(FOUR_ZERO_ROWS);
        for (int n = 3; n >= 0; n--) {
            due(x, TRUE, "spare", n);
            due(x, n, "remove");
            due(x, FALSE, "spare", n);
        }
    }

    // Promise 15: "Whether taking row r away would leave the grid the same"
    private static void spareFirstAndLast() {
        dueOf(ZERO_ROW, TRUE, "spare", 0);
        dueOf(LINE, FALSE, "spare", 0);
        for (int r = 0; r < 4; r++) {
            dueOf(FOUR_ZERO_ROWS, TRUE, "spare", r);
            dueOf(FOUR_IN_A_LINE, TRUE, "spare", r);
            dueOf(FOUR_IN_A_PLANE, TRUE, "spare", r);
            dueOf(FOUR_IN_SPACE, FALSE, "spare", r);
            // Only row r is of use: the others span less without it.
            int[] one = FOUR_ZERO_ROWS.clone();
            one[3 * r + r % 3] = -9;
            for (int other = 0; other < 4; other++) {
                dueOf(one, other == r ? FALSE : TRUE, "spare", other);
            }
        }
    }

    // Promises 16 and 17: "NONE if there is none"
    private static void shortestWithoutOne() {
        for (int i = 0; i < OBJECTS.length; i++) {
            if (RANKS[i] == 0) {
                refused(OBJECTS[i], NONE, "shortest");
                refused(OBJECTS[i], NONE, "shortestPoints");
            }
        }
        IntegerGrids x = grid(0, 0, -1);
        due(x, 2, "shortestPoints");
        due(x, 99, "set", 0, 2, 0);
        due(x, NONE, "shortestPoints");
        due(x, NONE, "shortest");
    }

    private static void dueShortest(int square, int points, int... rows) {
        dueOf(rows, square, "shortest");
        dueOf(rows, points, "shortestPoints");
    }

    // Promises 16 and 17: "The least x x + y y + z z of a point of the grid other than (0, 0, 0)", at its ends
    private static void shortestAtItsEnds() {
        dueShortest(1, 6, ALL_POINTS);
        dueShortest(1, 2, 0, 0, -1);
        dueShortest(243, 2, 9, 9, 9);
        dueShortest(243, 2, -9, 9, -9);
        dueShortest(243, 8, 9, 9, 9, -9, 9, -9, 9, -9, -9);
        // The rows' difference is the shortest point, and a number of it is far beyond what a row can have.
        dueShortest(196, 2, 6, -9, -9, -8, -9, -9);
        dueShortest(196, 2, -9, 6, -9, -9, -8, -9);
        dueShortest(196, 2, -9, -9, -8, -9, -9, 6);
        dueShortest(2, 12, 1, 1, 0, 1, -1, 0, 0, 1, 1);
    }

    // Promise 18: "order, corner: BAD_ARG is tested before NONE. step: BAD_ARG is tested before NONE."
    private static void badArgBeforeNone() {
        for (int[] rows : new int[][] {NO_ROWS, ZERO_ROW, FOUR_ZERO_ROWS}) {
            refused(rows, NONE, "order", 100, 1, -100);
            refused(rows, BAD_ARG, "order", 101, 1, -100);
            refused(rows, BAD_ARG, "order", 100, 1, -101);
            refused(rows, BAD_ARG, "order", 1, LEAST, 1);
            for (int i = 0; i <= 2; i++) {
                refused(rows, NONE, "corner", i, 2);
                refused(rows, BAD_ARG, "corner", i, 3);
                refused(rows, BAD_ARG, "corner", i, -1);
                refused(rows, NONE, "step", i);
            }
            refused(rows, BAD_ARG, "corner", 3, 0);
            refused(rows, BAD_ARG, "corner", -1, 0);
            refused(rows, BAD_ARG, "step", 3);
            refused(rows, BAD_ARG, "step", -1);
        }
    }

    private static void terms() {
        constants();
        theLastOf512Calls();
        zeroToFourRows();
        numbersFromMinusNineToNine();
        numberedInTheirOrder();
        theGridWithoutRows();
        rankAtItsEnds();
        divisorWhereAllMinorsAreZero();
        divisorWhereThereAreNoMinors();
        divisorOfSizeZero();
        noCallThrows();
    }

    private static void changes() {
        newObject();
        addOutOfRange();
        addToFourRows();
        addWithRoom();
        removeWithoutRows();
        removeDownToNoRow();
        setWithoutTheRow();
        setWithoutTheColumn();
        setOutOfRange();
        setAtTheEndsOfItsRange();
        swapOutOfRange();
        swapAtTheEnds();
    }

    private static void questionsAboutShape() {
        rowsAtTheEnds();
        rankAfterChanges();
        divisorOutOfRange();
        divisorAtItsEnds();
        divisorOfASingleMinor();
        shapeForOtherK();
        shapeFromOneToTheRank();
    }

    private static void questionsAboutPoints() {
        hasOutOfRange();
        hasAtTheEnds();
        orderOutOfRange();
        orderAtTheEnds();
        orderIsOneOrMore();
        orderWithoutOne();
        stepOutOfRange();
        stepWithoutOne();
        stepIsAboveZero();
        cornerOutOfRange();
        cornerWithoutOne();
        cornerAtTheEndsOfItsRange();
        cornerWhereALaterStepIsNone();
        countOutOfRange();
        countAtTheEnds();
        spareWithoutTheRow();
        spareFirstAndLast();
        shortestWithoutOne();
        shortestAtItsEnds();
        badArgBeforeNone();
    }

    public static void main(String[] args) {
        terms();
        changes();
        questionsAboutShape();
        questionsAboutPoints();
        if (wrong != 0) {
            System.out.println(wrong + " answers are not as due");
            System.exit(1);
        }
    }
}
