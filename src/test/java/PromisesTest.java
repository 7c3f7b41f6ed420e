// One group of calls for each promise of the document: ordinary inputs, the edges it names, wrong inputs.
public final class PromisesTest {
    private static final int BAD_ARG = -1;
    private static final int FULL = -2;
    private static final int NONE = -1000000;
    private static final int[] FAR = {Integer.MIN_VALUE, Integer.MAX_VALUE};

    private static int wrong = 0;

    private static void due(int promise, String call, long got, long want) {
        if (got != want) {
            wrong++;
            System.out.println("promise " + promise + ": " + call + " answered " + got + ", due is " + want);
        }
    }

    private static void due(int promise, String call, boolean got, boolean want) {
        due(promise, call, got ? 1L : 0L, want ? 1L : 0L);
    }

    private static IntegerGrids grid(int... numbers) {
        IntegerGrids made = new IntegerGrids();
        for (int i = 0; i + 2 < numbers.length; i += 3) {
            due(2, "add", made.add(numbers[i], numbers[i + 1], numbers[i + 2]), i / 3);
        }
        return made;
    }

    // Reads every number by setting it to what it is held to be; setting the same number changes nothing.
    private static void rowsAre(int promise, String when, IntegerGrids x, int... numbers) {
        due(promise, when + ": rows()", x.rows(), numbers.length / 3);
        for (int i = 0; i < numbers.length; i++) {
            String call = when + ": number " + i % 3 + " of row " + i / 3;
            due(promise, call, x.set(i / 3, i % 3, numbers[i]), numbers[i] + 100);
        }
    }

    private static void newObject() {
        IntegerGrids x = new IntegerGrids();
        due(1, "rows()", x.rows(), 0);
        due(1, "rank()", x.rank(), 0);
        due(1, "remove()", x.remove(), NONE);
        due(1, "has(0, 0, 0)", x.has(0, 0, 0), true);
        due(1, "has(0, 0, 1)", x.has(0, 0, 1), false);
        due(1, "count(8)", x.count(8), 1);
        IntegerGrids other = new IntegerGrids();
        other.add(1, 2, 3);
        due(1, "rows() of another object", x.rows(), 0);
    }

    private static void add() {
        IntegerGrids x = new IntegerGrids();
        due(2, "add(-9, 9, 0)", x.add(-9, 9, 0), 0);
        due(2, "add(10, 0, 0)", x.add(10, 0, 0), BAD_ARG);
        due(2, "add(-10, 0, 0)", x.add(-10, 0, 0), BAD_ARG);
        due(2, "add(0, 10, 0)", x.add(0, 10, 0), BAD_ARG);
        due(2, "add(0, -10, 0)", x.add(0, -10, 0), BAD_ARG);
        due(2, "add(0, 0, 10)", x.add(0, 0, 10), BAD_ARG);
        due(2, "add(0, 0, -10)", x.add(0, 0, -10), BAD_ARG);
        for (int far : FAR) {
            due(2, "add far x", x.add(far, 0, 0), BAD_ARG);
            due(2, "add far y", x.add(0, far, 0), BAD_ARG);
            due(2, "add far z", x.add(0, 0, far), BAD_ARG);
        }
        rowsAre(2, "after refused adds", x, -9, 9, 0);
        due(2, "add(9, -9, 9)", x.add(9, -9, 9), 1);
        due(2, "add(0, 0, -9)", x.add(0, 0, -9), 2);
        due(2, "add(1, 2, 3)", x.add(1, 2, 3), 3);
        due(2, "add(0, 0, 0) to 4 rows", x.add(0, 0, 0), FULL);
        due(2, "add(10, 0, 0) to 4 rows", x.add(10, 0, 0), BAD_ARG);
        due(2, "add(0, 0, -10) to 4 rows", x.add(0, 0, -10), BAD_ARG);
        rowsAre(2, "full", x, -9, 9, 0, 9, -9, 9, 0, 0, -9, 1, 2, 3);
    }

    private static void remove() {
        IntegerGrids x = grid(1, 2, 3, 4, 5, 6);
        due(3, "remove()", x.remove(), 1);
        rowsAre(3, "after remove", x, 1, 2, 3);
        due(3, "has(4, 5, 6)", x.has(4, 5, 6), false);
        due(3, "divisor(2)", x.divisor(2), 0);
        due(3, "remove()", x.remove(), 0);
        due(3, "remove() without rows", x.remove(), NONE);
        due(3, "rows()", x.rows(), 0);
        due(3, "divisor(1)", x.divisor(1), 0);
        due(3, "add after remove", x.add(7, 8, 9), 0);
        rowsAre(3, "after add", x, 7, 8, 9);
        IntegerGrids full = grid(1, 0, 0, 0, 1, 0, 0, 0, 1, 1, 1, 1);
        due(3, "remove() of 4", full.remove(), 3);
        due(3, "add in its place", full.add(2, 2, 2), 3);
        rowsAre(3, "full again", full, 1, 0, 0, 0, 1, 0, 0, 0, 1, 2, 2, 2);
    }

    private static void set() {
        IntegerGrids x = grid(1, 2, 3, -4, -5, -9);
        due(4, "set(1, 2, 9)", x.set(1, 2, 9), 91);
        due(4, "set(1, 2, -9)", x.set(1, 2, -9), 109);
        due(4, "set(0, 0, 0)", x.set(0, 0, 0), 101);
        due(4, "set(0, 1, 7)", x.set(0, 1, 7), 102);
        rowsAre(4, "after set", x, 0, 7, 3, -4, -5, -9);
        due(4, "set(2, 0, 0)", x.set(2, 0, 0), BAD_ARG);
        due(4, "set(-1, 0, 0)", x.set(-1, 0, 0), BAD_ARG);
        due(4, "set(0, 3, 0)", x.set(0, 3, 0), BAD_ARG);
        due(4, "set(0, -1, 0)", x.set(0, -1, 0), BAD_ARG);
        due(4, "set(1, -1, 0)", x.set(1, -1, 0), BAD_ARG);
        due(4, "set(0, 0, 10)", x.set(0, 0, 10), BAD_ARG);
        due(4, "set(0, 0, -10)", x.set(0, 0, -10), BAD_ARG);
        for (int far : FAR) {
            due(4, "set far r", x.set(far, 0, 0), BAD_ARG);
            due(4, "set far c", x.set(0, far, 0), BAD_ARG);
            due(4, "set far v", x.set(0, 0, far), BAD_ARG);
        }
        rowsAre(4, "after refused sets", x, 0, 7, 3, -4, -5, -9);
        x.remove();
        due(4, "set of a removed row", x.set(1, 0, 1), BAD_ARG);
        IntegerGrids one = grid(2, 0, 0);
        due(4, "has(1, 0, 0)", one.has(1, 0, 0), false);
        one.set(0, 0, 1);
        due(4, "has(1, 0, 0) after set", one.has(1, 0, 0), true);
    }

    private static void swap() {
        IntegerGrids x = grid(1, 2, 3, 4, 5, 6, 7, 8, 9);
        due(5, "swap(0, 1)", x.swap(0, 1), 3);
        rowsAre(5, "x and y", x, 2, 1, 3, 5, 4, 6, 8, 7, 9);
        due(5, "swap(2, 0)", x.swap(2, 0), 3);
        rowsAre(5, "z and x", x, 3, 1, 2, 6, 4, 5, 9, 7, 8);
        due(5, "swap(1, 2)", x.swap(1, 2), 3);
        rowsAre(5, "y and z", x, 3, 2, 1, 6, 5, 4, 9, 8, 7);
        due(5, "swap(1, 1)", x.swap(1, 1), 3);
        due(5, "swap(3, 0)", x.swap(3, 0), BAD_ARG);
        due(5, "swap(0, 3)", x.swap(0, 3), BAD_ARG);
        due(5, "swap(-1, 0)", x.swap(-1, 0), BAD_ARG);
        due(5, "swap(0, -1)", x.swap(0, -1), BAD_ARG);
        for (int far : FAR) {
            due(5, "swap far c", x.swap(far, 0), BAD_ARG);
            due(5, "swap far d", x.swap(0, far), BAD_ARG);
        }
        rowsAre(5, "after refused swaps", x, 3, 2, 1, 6, 5, 4, 9, 8, 7);
        IntegerGrids none = new IntegerGrids();
        due(5, "swap(0, 2) without rows", none.swap(0, 2), 0);
        due(5, "swap(0, 3) without rows", none.swap(0, 3), BAD_ARG);
        IntegerGrids four = grid(1, 0, 0, 2, 0, 0, 3, 0, 0, 4, 0, 0);
        due(5, "swap(0, 2) of 4", four.swap(0, 2), 4);
        rowsAre(5, "of 4", four, 0, 0, 1, 0, 0, 2, 0, 0, 3, 0, 0, 4);
    }

    private static void rows() {
        IntegerGrids x = new IntegerGrids();
        for (int n = 0; n < 4; n++) {
            due(6, "rows()", x.rows(), n);
            x.add(0, 0, 0);
        }
        due(6, "rows()", x.rows(), 4);
        x.add(0, 0, 0);
        due(6, "rows() after FULL", x.rows(), 4);
        x.remove();
        due(6, "rows() after remove", x.rows(), 3);
    }

    private static void rank() {
        due(7, "rank of nothing", new IntegerGrids().rank(), 0);
        due(7, "rank of zeros", grid(0, 0, 0, 0, 0, 0).rank(), 0);
        due(7, "rank of one row", grid(0, 0, -9).rank(), 1);
        due(7, "rank of multiples", grid(2, 4, -6, 3, 6, -9, -1, -2, 3).rank(), 1);
        due(7, "rank in a plane", grid(1, 2, 3, 4, 5, 6, 7, 8, 9).rank(), 2);
        due(7, "rank of four in a plane", grid(1, 1, 0, 0, 1, 1, 1, 2, 1, 1, 0, -1).rank(), 2);
        due(7, "rank of three", grid(1, 0, 0, 0, 1, 0, 0, 0, 1).rank(), 3);
        due(7, "rank of four", grid(2, 0, 0, 0, 3, 0, 0, 0, 5, 1, 1, 1).rank(), 3);
    }

    private static void divisor() {
        IntegerGrids x = grid(2, 4, 4, -6, 6, 9, 8, -2, 7);
        due(8, "divisor(0)", x.divisor(0), 1);
        due(8, "divisor(1)", x.divisor(1), 1);
        due(8, "divisor(2)", x.divisor(2), 6);
        due(8, "divisor(3)", x.divisor(3), 432);
        due(8, "divisor(-1)", x.divisor(-1), BAD_ARG);
        due(8, "divisor(4)", x.divisor(4), BAD_ARG);
        for (int far : FAR) {
            due(8, "divisor far", x.divisor(far), BAD_ARG);
        }
        IntegerGrids none = new IntegerGrids();
        due(8, "divisor(0) without rows", none.divisor(0), 1);
        due(8, "divisor(1) without rows", none.divisor(1), 0);
        due(8, "divisor(3) without rows", none.divisor(3), 0);
        IntegerGrids one = grid(-6, 0, 9);
        due(8, "divisor(1) of one row", one.divisor(1), 3);
        due(8, "divisor(2) of one row", one.divisor(2), 0);
        IntegerGrids plane = grid(1, 2, 3, 4, 5, 6, 7, 8, 9);
        due(8, "divisor(2) in a plane", plane.divisor(2), 3);
        due(8, "divisor(3) in a plane", plane.divisor(3), 0);
        due(8, "greatest divisor(3)", grid(9, 9, 9, -9, 9, -9, 9, -9, -9).divisor(3), 2916);
        due(8, "greatest divisor(2)", grid(9, 9, 0, -9, 9, 0).divisor(2), 162);
        due(8, "divisor(3) of four rows", grid(2, 0, 0, 0, 3, 0, 0, 0, 5, 1, 1, 1).divisor(3), 1);
    }

    private static void shape() {
        IntegerGrids x = grid(2, 4, 4, -6, 6, 9, 8, -2, 7);
        due(9, "shape(0)", x.shape(0), NONE);
        due(9, "shape(1)", x.shape(1), 1);
        due(9, "shape(2)", x.shape(2), 6);
        due(9, "shape(3)", x.shape(3), 72);
        due(9, "shape(4)", x.shape(4), NONE);
        due(9, "shape(-1)", x.shape(-1), NONE);
        for (int far : FAR) {
            due(9, "shape far", x.shape(far), NONE);
        }
        IntegerGrids plane = grid(2, 0, 0, 0, 6, 0);
        due(9, "shape(1) in a plane", plane.shape(1), 2);
        due(9, "shape(2) in a plane", plane.shape(2), 6);
        due(9, "shape(3) in a plane", plane.shape(3), NONE);
        due(9, "shape(1) of zeros", grid(0, 0, 0).shape(1), NONE);
        due(9, "shape(2) of one row", grid(3, 0, 0).shape(2), NONE);
    }

    private static void has() {
        IntegerGrids x = grid(2, 4, 4, -6, 6, 9, 8, -2, 7);
        due(10, "has row 2", x.has(8, -2, 7), true);
        due(10, "has a sum", x.has(2 - 2 * 6 - 8, 4 + 2 * 6 + 2, 4 + 2 * 9 - 7), true);
        due(10, "has(1, 0, 0)", x.has(1, 0, 0), false);
        due(10, "has(0, 0, 12)", x.has(0, 0, 12), true);
        due(10, "has(0, 0, -6)", x.has(0, 0, -6), false);
        IntegerGrids all = grid(1, 0, 0, 0, 1, 0, 0, 0, 1);
        due(10, "has(5000, -5000, 5000)", all.has(5000, -5000, 5000), true);
        due(10, "has(-5000, 5000, -5000)", all.has(-5000, 5000, -5000), true);
        due(10, "has(5001, 0, 0)", all.has(5001, 0, 0), false);
        due(10, "has(0, -5001, 0)", all.has(0, -5001, 0), false);
        due(10, "has(0, 0, 5001)", all.has(0, 0, 5001), false);
        due(10, "has(-5001, 0, 0)", all.has(-5001, 0, 0), false);
        due(10, "has(0, 5001, 0)", all.has(0, 5001, 0), false);
        due(10, "has(0, 0, -5001)", all.has(0, 0, -5001), false);
        for (int far : FAR) {
            due(10, "has far x", all.has(far, 0, 0), false);
            due(10, "has far y", all.has(0, far, 0), false);
            due(10, "has far z", all.has(0, 0, far), false);
        }
        IntegerGrids line = grid(9, -9, 8);
        due(10, "has 555 times the row", line.has(4995, -4995, 4440), true);
        due(10, "has beside the line", line.has(4995, -4995, 4441), false);
        due(10, "has(0, 0, 8)", line.has(0, 0, 8), false);
        due(10, "has(0, 0, 0)", line.has(0, 0, 0), true);
        IntegerGrids none = new IntegerGrids();
        due(10, "has(0, 0, 0) without rows", none.has(0, 0, 0), true);
        due(10, "has(0, 1, 0) without rows", none.has(0, 1, 0), false);
    }

    private static void order() {
        IntegerGrids x = grid(9, 9, 9, -9, 9, -9, 9, -9, -9);
        due(11, "order(0, 0, 0)", x.order(0, 0, 0), 1);
        due(11, "order(9, 9, 9)", x.order(9, 9, 9), 1);
        due(11, "order(1, 0, 0)", x.order(1, 0, 0), 18);
        due(11, "order(-9, -9, 0)", x.order(-9, -9, 0), 2);
        due(11, "order(100, -100, 100)", x.order(100, -100, 100), 9);
        due(11, "order(3, 3, 3)", x.order(3, 3, 3), 3);
        due(11, "order of 5 times 7 times 9", grid(5, 0, 0, 0, 7, 0, 0, 0, 9).order(1, 1, 1), 315);
        due(11, "order(1, -1, 2) of half rows", grid(2, -2, 4).order(1, -1, 2), 2);
        due(11, "order beside the line", grid(2, -2, 4).order(1, -1, 1), NONE);
        due(11, "order out of the plane", grid(1, 0, 0, 0, 1, 0).order(0, 0, 1), NONE);
        due(11, "order(0, 0, 0) without rows", new IntegerGrids().order(0, 0, 0), 1);
        due(11, "order(0, 1, 0) without rows", new IntegerGrids().order(0, 1, 0), NONE);
        due(11, "order(101, 0, 0)", x.order(101, 0, 0), BAD_ARG);
        due(11, "order(-101, 0, 0)", x.order(-101, 0, 0), BAD_ARG);
        due(11, "order(0, 101, 0)", x.order(0, 101, 0), BAD_ARG);
        due(11, "order(0, -101, 0)", x.order(0, -101, 0), BAD_ARG);
        due(11, "order(0, 0, 101)", x.order(0, 0, 101), BAD_ARG);
        due(11, "order(0, 0, -101)", x.order(0, 0, -101), BAD_ARG);
        for (int far : FAR) {
            due(11, "order far x", x.order(far, 0, 0), BAD_ARG);
            due(11, "order far y", x.order(0, far, 0), BAD_ARG);
            due(11, "order far z", x.order(0, 0, far), BAD_ARG);
        }
    }

    private static void step() {
        IntegerGrids x = grid(2, 4, 4, -6, 6, 9, 8, -2, 7);
        due(12, "step(0)", x.step(0), 2);
        due(12, "step(1)", x.step(1), 18);
        due(12, "step(2)", x.step(2), 12);
        due(12, "step(-1)", x.step(-1), BAD_ARG);
        due(12, "step(3)", x.step(3), BAD_ARG);
        for (int far : FAR) {
            due(12, "step far", x.step(far), BAD_ARG);
        }
        IntegerGrids down = grid(-4, 0, 0, 0, -6, 0, 0, 0, -8);
        due(12, "step(0) of -4", down.step(0), 4);
        due(12, "step(1) of -6", down.step(1), 6);
        due(12, "step(2) of -8", down.step(2), 8);
        IntegerGrids apart = grid(6, 0, 0, 9, 0, 1);
        due(12, "step(0) of 6 and 9", apart.step(0), 3);
        due(12, "step(1) of no y", apart.step(1), NONE);
        due(12, "step(2) of 6 and 9", apart.step(2), 2);
        due(12, "step(0) of a line along z", grid(0, 0, 7).step(0), NONE);
        due(12, "step(2) of a line along z", grid(0, 0, 7).step(2), 7);
    }

    private static void corner() {
        IntegerGrids x = grid(2, 4, 4, -6, 6, 9, 8, -2, 7);
        int[] want = {2, 4, 4, 0, 18, 9, 0, 0, 12};
        for (int i = 0; i < 9; i++) {
            due(13, "corner(" + i / 3 + ", " + i % 3 + ")", x.corner(i / 3, i % 3), want[i]);
        }
        IntegerGrids low = grid(1, -1, -1, 0, 5, -2, 0, 0, 7);
        int[] lowWant = {1, 4, 4, 0, 5, 5, 0, 0, 7};
        for (int i = 0; i < 9; i++) {
            due(13, "low corner(" + i / 3 + ", " + i % 3 + ")", low.corner(i / 3, i % 3), lowWant[i]);
        }
        IntegerGrids line = grid(-3, 7, -8);
        due(13, "corner(0, 0) of a line", line.corner(0, 0), 3);
        due(13, "corner(0, 1) of a line", line.corner(0, 1), -7);
        due(13, "corner(0, 2) of a line", line.corner(0, 2), 8);
        due(13, "corner(1, 0) of a line", line.corner(1, 0), NONE);
        due(13, "corner(2, 2) of a line", line.corner(2, 2), NONE);
        IntegerGrids gap = grid(2, -5, -1, 0, 0, 4);
        due(13, "corner(0, 1) where step(1) is NONE", gap.corner(0, 1), -5);
        due(13, "corner(0, 2) where step(1) is NONE", gap.corner(0, 2), 3);
        due(13, "corner(1, 1) where step(1) is NONE", gap.corner(1, 1), NONE);
        IntegerGrids steep = grid(9, 8, 9, 8, 7, -9);
        due(13, "corner(0, 2) where step(2) is NONE", steep.corner(0, 2), -135);
        due(13, "corner(1, 2) where step(2) is NONE", steep.corner(1, 2), 153);
        IntegerGrids small = grid(3, -1, -2);
        due(13, "corner(0, 1) that is -1", small.corner(0, 1), -1);
        due(13, "corner(0, 2) that is -2", small.corner(0, 2), -2);
        due(13, "corner(3, 0)", x.corner(3, 0), BAD_ARG);
        due(13, "corner(-1, 0)", x.corner(-1, 0), BAD_ARG);
        due(13, "corner(0, 3)", x.corner(0, 3), BAD_ARG);
        due(13, "corner(1, -1)", x.corner(1, -1), BAD_ARG);
        for (int far : FAR) {
            due(13, "corner far i", x.corner(far, 0), BAD_ARG);
            due(13, "corner far c", x.corner(0, far), BAD_ARG);
        }
    }

    private static void count() {
        IntegerGrids all = grid(1, 0, 0, 0, 1, 0, 0, 0, 1);
        for (int n = 0; n <= 8; n++) {
            due(14, "count(" + n + ") of all points", all.count(n), n * n * n);
        }
        due(14, "count(9)", all.count(9), BAD_ARG);
        due(14, "count(-1)", all.count(-1), BAD_ARG);
        for (int far : FAR) {
            due(14, "count far", all.count(far), BAD_ARG);
        }
        due(14, "count(8) of a line", grid(1, 2, 3).count(8), 3);
        due(14, "count(7) of a line", grid(1, 2, 3).count(7), 3);
        due(14, "count(6) of a line", grid(1, 2, 3).count(6), 2);
        due(14, "count(3) of even sums", grid(1, 1, 0, 1, -1, 0, 0, 1, 1).count(3), 14);
        due(14, "count(0) without rows", new IntegerGrids().count(0), 0);
        due(14, "count(1) without rows", new IntegerGrids().count(1), 1);
    }

    private static void spare() {
        IntegerGrids x = grid(4, 0, 0, 6, 0, 0, 2, 0, 0, 0, 0, 0);
        due(15, "spare(0)", x.spare(0), true);
        due(15, "spare(1)", x.spare(1), true);
        due(15, "spare(2)", x.spare(2), true);
        due(15, "spare(3)", x.spare(3), true);
        due(15, "spare(4)", x.spare(4), false);
        due(15, "spare(-1)", x.spare(-1), false);
        for (int far : FAR) {
            due(15, "spare far", x.spare(far), false);
        }
        rowsAre(15, "after spare", x, 4, 0, 0, 6, 0, 0, 2, 0, 0, 0, 0, 0);
        IntegerGrids pair = grid(4, 0, 0, 6, 0, 0);
        due(15, "spare(0) of 4 and 6", pair.spare(0), false);
        due(15, "spare(1) of 4 and 6", pair.spare(1), false);
        due(15, "step(0) after spare", pair.step(0), 2);
        due(15, "spare(2) of two rows", pair.spare(2), false);
        due(15, "spare(0) of a zero row", grid(0, 0, 0).spare(0), true);
        due(15, "spare(0) of one row", grid(0, 1, 0).spare(0), false);
        due(15, "spare(0) without rows", new IntegerGrids().spare(0), false);
        pair.add(0, 0, 0);
        pair.remove();
        due(15, "spare of a removed row", pair.spare(2), false);
    }

    private static void shortest() {
        shortestIs("no rows", new IntegerGrids(), NONE, NONE);
        shortestIs("zero rows", grid(0, 0, 0, 0, 0, 0), NONE, NONE);
        shortestIs("one row", grid(9, -9, 9), 243, 2);
        shortestIs("all points", grid(1, 0, 0, 0, 1, 0, 0, 0, 1), 1, 6);
        shortestIs("even sums", grid(1, 1, 0, 1, -1, 0, 0, 1, 1), 2, 12);
        shortestIs("a cube's middles", grid(9, 9, 9, -9, 9, -9, 9, -9, -9), 243, 8);
        shortestIs("four and six", grid(4, 0, 0, 6, 0, 0), 4, 2);
        shortestIs("a sum of rows", grid(9, 1, 0, -8, -1, 1), 2, 2);
        shortestIs("a square", grid(3, 4, 0, -4, 3, 0), 25, 4);
        shortestIs("six in a plane", grid(9, -9, 0, 0, 9, -9), 162, 6);
    }

    private static void shortestIs(String name, IntegerGrids x, int square, int points) {
        due(16, "shortest() of " + name, x.shortest(), square);
        due(17, "shortestPoints() of " + name, x.shortestPoints(), points);
        due(16, "shortest() again of " + name, x.shortest(), square);
    }

    private static void orderAndLimits() {
        IntegerGrids none = new IntegerGrids();
        due(18, "order(101, 0, 0) without rows", none.order(101, 0, 0), BAD_ARG);
        due(18, "order(1, 0, -101) without rows", none.order(1, 0, -101), BAD_ARG);
        due(18, "order(1, 0, -100) without rows", none.order(1, 0, -100), NONE);
        due(18, "corner(0, 3) without rows", none.corner(0, 3), BAD_ARG);
        due(18, "corner(0, -1) without rows", none.corner(0, -1), BAD_ARG);
        due(18, "corner(3, 0) without rows", none.corner(3, 0), BAD_ARG);
        due(18, "corner(0, 2) without rows", none.corner(0, 2), NONE);
        due(18, "step(3) without rows", none.step(3), BAD_ARG);
        due(18, "step(-1) without rows", none.step(-1), BAD_ARG);
        due(18, "step(2) without rows", none.step(2), NONE);
    }

    public static void main(String[] args) {
        newObject();
        add();
        remove();
        set();
        swap();
        rows();
        rank();
        divisor();
        shape();
        has();
        order();
        step();
        corner();
        count();
        spare();
        shortest();
        orderAndLimits();
        due(0, "BAD_ARG", IntegerGrids.BAD_ARG, BAD_ARG);
        due(0, "FULL", IntegerGrids.FULL, FULL);
        due(0, "NONE", IntegerGrids.NONE, NONE);
        if (wrong != 0) {
            System.exit(1);
        }
    }
}
