import java.util.ArrayList;
import java.util.List;

// Compares the class with a model that knows a grid by its minors alone: a grid within another one of
// the same rank is the same grid exactly if the greatest divisors of their minors of that size agree.
public final class ModelTest {
    private static final int BAD_ARG = -1;
    private static final int FULL = -2;
    private static final int NONE = -1000000;
    private static final int CALLS_OF_AN_OBJECT = 512;

    private static int wrong = 0;
    private static long seed = 20261115L;

    // A fixed sequence, so that every run of the tests makes the same calls.
    private static int next(int bound) {
        seed = seed * 6364136223846793005L + 1442695040888963407L;
        return (int) ((seed >>> 33) % bound);
    }

    private static int between(int low, int high) {
        return low + next(high - low + 1);
    }

    private static void due(String call, long got, long want) {
        if (got != want) {
            wrong++;
            if (wrong <= 50) {
                System.out.println(call + " answered " + got + ", due is " + want);
            }
        }
    }

    private static long gcd(long a, long b) {
        return b == 0 ? Math.abs(a) : gcd(b, a % b);
    }

    // ---- the model ----

    private static long determinant(List<long[]> rows, int[] chosen, int[] columns, int size) {
        if (size == 1) {
            return rows.get(chosen[0])[columns[0]];
        }
        if (size == 2) {
            long[] a = rows.get(chosen[0]);
            long[] b = rows.get(chosen[1]);
            return a[columns[0]] * b[columns[1]] - a[columns[1]] * b[columns[0]];
        }
        long[] a = rows.get(chosen[0]);
        long[] b = rows.get(chosen[1]);
        long[] c = rows.get(chosen[2]);
        return a[0] * b[1] * c[2] + a[1] * b[2] * c[0] + a[2] * b[0] * c[1]
            - a[2] * b[1] * c[0] - a[1] * b[0] * c[2] - a[0] * b[2] * c[1];
    }

    private static int[] members(int set, int size) {
        int[] list = new int[size];
        int at = 0;
        for (int i = 0; i < 8; i++) {
            if ((set >> i & 1) == 1) {
                list[at++] = i;
            }
        }
        return list;
    }

    // D(size) of the rows, with only their first columns.
    private static long divisor(List<long[]> rows, int size, int columns) {
        if (size == 0) {
            return 1;
        }
        long g = 0;
        for (int rowSet = 0; rowSet < 1 << rows.size(); rowSet++) {
            if (Integer.bitCount(rowSet) != size) {
                continue;
            }
            for (int columnSet = 0; columnSet < 1 << columns; columnSet++) {
                if (Integer.bitCount(columnSet) == size) {
                    g = gcd(g, determinant(rows, members(rowSet, size), members(columnSet, size), size));
                }
            }
        }
        return g;
    }

    private static int rank(List<long[]> rows, int columns) {
        for (int k = columns; k > 0; k--) {
            if (divisor(rows, k, columns) != 0) {
                return k;
            }
        }
        return 0;
    }

    private static boolean has(List<long[]> rows, long x, long y, long z) {
        int rank = rank(rows, 3);
        List<long[]> more = new ArrayList<>(rows);
        more.add(new long[] {x, y, z});
        return rank(more, 3) == rank && divisor(more, rank, 3) == divisor(rows, rank, 3);
    }

    private static int order(List<long[]> rows, int x, int y, int z) {
        List<long[]> more = new ArrayList<>(rows);
        more.add(new long[] {x, y, z});
        int rank = rank(rows, 3);
        if (rank(more, 3) != rank) {
            return NONE;
        }
        // Adding the point makes the grid denser by just this factor.
        return (int) (divisor(rows, rank, 3) / divisor(more, rank, 3));
    }

    private static int step(List<long[]> rows, int c) {
        int before = rank(rows, c);
        int here = rank(rows, c + 1);
        if (before == here) {
            return NONE;
        }
        return (int) (divisor(rows, here, c + 1) / divisor(rows, before, c));
    }

    private static int count(List<long[]> rows, int n) {
        int found = 0;
        for (int i = 0; i < n * n * n; i++) {
            if (has(rows, i / n / n, i / n % n, i % n)) {
                found++;
            }
        }
        return found;
    }

    private static boolean spare(List<long[]> rows, int r) {
        List<long[]> fewer = new ArrayList<>(rows);
        long[] row = fewer.remove(r);
        return has(fewer, row[0], row[1], row[2]);
    }

    // The least square and how many points have it.
    private static int[] shortest(List<long[]> rows) {
        long least = Long.MAX_VALUE;
        for (long[] row : rows) {
            long square = row[0] * row[0] + row[1] * row[1] + row[2] * row[2];
            least = square > 0 && square < least ? square : least;
        }
        if (least == Long.MAX_VALUE) {
            return new int[] {NONE, NONE};
        }
        int points = 0;
        int reach = (int) Math.sqrt(least) + 1;
        for (int x = -reach; x <= reach; x++) {
            for (int y = -reach; y <= reach; y++) {
                for (int z = -reach; z <= reach; z++) {
                    int square = x * x + y * y + z * z;
                    if (square == 0 || square > least || !has(rows, x, y, z)) {
                        continue;
                    }
                    points = square < least ? 1 : points + 1;
                    least = square;
                }
            }
        }
        return new int[] {(int) least, points};
    }

    // ---- the comparisons ----

    private static String text(List<long[]> rows) {
        StringBuilder all = new StringBuilder();
        for (long[] row : rows) {
            all.append("(").append(row[0]).append(", ").append(row[1]).append(", ").append(row[2]).append(") ");
        }
        return all.toString();
    }

    private static void compareShape(IntegerGrids x, List<long[]> rows) {
        String of = text(rows);
        int rank = rank(rows, 3);
        due(of + "rows()", x.rows(), rows.size());
        due(of + "rank()", x.rank(), rank);
        for (int k = 0; k <= 3; k++) {
            due(of + "divisor(" + k + ")", x.divisor(k), divisor(rows, k, 3));
            long want = k < 1 || k > rank ? NONE : divisor(rows, k, 3) / divisor(rows, k - 1, 3);
            due(of + "shape(" + k + ")", x.shape(k), want);
        }
        for (int r = 0; r < rows.size(); r++) {
            due(of + "spare(" + r + ")", x.spare(r) ? 1 : 0, spare(rows, r) ? 1 : 0);
        }
    }

    // A point that fits the words of promise 13 is the only one, so fitting them is enough.
    private static void compareCorner(IntegerGrids x, List<long[]> rows, int i) {
        String of = text(rows) + "corner(" + i + ", ";
        int[] point = {x.corner(i, 0), x.corner(i, 1), x.corner(i, 2)};
        if (step(rows, i) == NONE) {
            for (int c = 0; c < 3; c++) {
                due(of + c + ")", point[c], NONE);
            }
            return;
        }
        for (int c = 0; c < i; c++) {
            due(of + c + ")", point[c], 0);
        }
        due(of + i + ")", point[i], step(rows, i));
        for (int c = i + 1; c < 3; c++) {
            int step = step(rows, c);
            if (step != NONE) {
                due(of + c + ") in its range", point[c] >= 0 && point[c] < step ? 1 : 0, 1);
            }
        }
        due(of + "..) in the grid", has(rows, point[0], point[1], point[2]) ? 1 : 0, 1);
    }

    private static void compareHas(IntegerGrids x, List<long[]> rows, long a, long b, long c) {
        String call = text(rows) + "has(" + a + ", " + b + ", " + c + ")";
        boolean want = Math.abs(a) <= 5000 && Math.abs(b) <= 5000 && Math.abs(c) <= 5000 && has(rows, a, b, c);
        due(call, x.has((int) a, (int) b, (int) c) ? 1 : 0, want ? 1 : 0);
    }

    private static long[] sumOfRows(List<long[]> rows, int most) {
        long[] sum = new long[3];
        for (long[] row : rows) {
            int times = between(-most, most);
            for (int c = 0; c < 3; c++) {
                sum[c] += times * row[c];
            }
        }
        return sum;
    }

    private static void comparePoints(IntegerGrids x, List<long[]> rows) {
        for (int c = 0; c < 3; c++) {
            due(text(rows) + "step(" + c + ")", x.step(c), step(rows, c));
            compareCorner(x, rows, c);
        }
        for (int i = 0; i < 8; i++) {
            compareHas(x, rows, between(-20, 20), between(-20, 20), between(-20, 20));
            compareHas(x, rows, between(-5000, 5000), between(-5000, 5000), between(-5000, 5000));
            long[] sum = sumOfRows(rows, 160);
            compareHas(x, rows, sum[0], sum[1], sum[2]);
            compareHas(x, rows, sum[0], sum[1], sum[2] + between(-9, 9));
        }
        for (int i = 0; i < 8; i++) {
            long[] sum = sumOfRows(rows, 2);
            int divided = between(1, 4);
            compareOrder(x, rows, (int) sum[0] / divided, (int) sum[1] / divided, (int) sum[2] / divided);
            compareOrder(x, rows, between(-100, 100), between(-100, 100), between(-100, 100));
        }
    }

    private static void compareOrder(IntegerGrids x, List<long[]> rows, int a, int b, int c) {
        due(text(rows) + "order(" + a + ", " + b + ", " + c + ")", x.order(a, b, c), order(rows, a, b, c));
    }

    private static void compareSearches(IntegerGrids x, List<long[]> rows) {
        int[] want = shortest(rows);
        due(text(rows) + "shortest()", x.shortest(), want[0]);
        due(text(rows) + "shortestPoints()", x.shortestPoints(), want[1]);
        int n = between(0, 8);
        due(text(rows) + "count(" + n + ")", x.count(n), count(rows, n));
    }

    // Kinds of numbers: any, small, far from 0, multiples of 3, mostly 0.
    private static int number(int kind) {
        switch (kind) {
            case 0:
                return between(-9, 9);
            case 1:
                return between(-2, 2);
            case 2:
                return between(7, 9) * (next(2) == 0 ? 1 : -1);
            case 3:
                return 3 * between(-3, 3);
            default:
                return next(3) == 0 ? between(-9, 9) : 0;
        }
    }

    private static List<long[]> rowsOfKind(int kind, int size, int flat) {
        List<long[]> rows = new ArrayList<>();
        for (int r = 0; r < size; r++) {
            rows.add(new long[] {number(kind), number(kind), number(kind)});
        }
        // Grids of less than full rank are rare by chance: make some by a column that copies or is 0.
        for (long[] row : rows) {
            if (flat == 1) {
                row[2] = -row[0];
            } else if (flat == 2) {
                row[1] = row[2];
            } else if (flat == 3) {
                row[0] = 0;
            }
        }
        return rows;
    }

    private static void compareGrids(int many) {
        for (int i = 0; i < many; i++) {
            List<long[]> rows = rowsOfKind(i % 5, i / 5 % 5, i / 25 % 4);
            IntegerGrids x = new IntegerGrids();
            for (long[] row : rows) {
                x.add((int) row[0], (int) row[1], (int) row[2]);
            }
            compareShape(x, rows);
            comparePoints(x, rows);
            if (i < 500 || i % 11 == 0) {
                compareSearches(x, rows);
            }
        }
    }

    // ---- long runs of calls ----

    private static boolean within(int v, int low, int high) {
        return low <= v && v <= high;
    }

    // A number mostly in the range and sometimes beyond it.
    private static int argument(int low, int high) {
        int kind = next(40);
        if (kind == 0) {
            return low - 1;
        }
        if (kind == 1) {
            return high + 1;
        }
        if (kind == 2) {
            return next(2) == 0 ? Integer.MIN_VALUE : Integer.MAX_VALUE;
        }
        return between(low, high);
    }

    private static void change(IntegerGrids x, List<long[]> rows) {
        String of = text(rows);
        int kind = next(10);
        if (kind < 4) {
            int a = argument(-9, 9);
            int b = argument(-9, 9);
            int c = argument(-9, 9);
            boolean good = within(a, -9, 9) && within(b, -9, 9) && within(c, -9, 9);
            int want = !good ? BAD_ARG : rows.size() == 4 ? FULL : rows.size();
            due(of + "add(" + a + ", " + b + ", " + c + ")", x.add(a, b, c), want);
            if (want >= 0) {
                rows.add(new long[] {a, b, c});
            }
        } else if (kind < 6) {
            due(of + "remove()", x.remove(), rows.isEmpty() ? NONE : rows.size() - 1);
            if (!rows.isEmpty()) {
                rows.remove(rows.size() - 1);
            }
        } else if (kind < 8) {
            int r = argument(0, 3);
            int c = argument(0, 2);
            int v = argument(-9, 9);
            boolean good = within(r, 0, rows.size() - 1) && within(c, 0, 2) && within(v, -9, 9);
            long want = good ? rows.get(r)[c] + 100 : BAD_ARG;
            due(of + "set(" + r + ", " + c + ", " + v + ")", x.set(r, c, v), want);
            if (good) {
                rows.get(r)[c] = v;
            }
        } else {
            int c = argument(0, 2);
            int d = argument(0, 2);
            boolean good = within(c, 0, 2) && within(d, 0, 2);
            due(of + "swap(" + c + ", " + d + ")", x.swap(c, d), good ? rows.size() : BAD_ARG);
            for (long[] row : rows) {
                if (good) {
                    long kept = row[c];
                    row[c] = row[d];
                    row[d] = kept;
                }
            }
        }
    }

    private static void ask(IntegerGrids x, List<long[]> rows) {
        String of = text(rows);
        int k = argument(0, 3);
        int a = argument(-100, 100);
        int b = argument(-100, 100);
        int c = argument(-100, 100);
        boolean good = within(a, -100, 100) && within(b, -100, 100) && within(c, -100, 100);
        switch (next(9)) {
            case 0:
                due(of + "rank()", x.rank(), rank(rows, 3));
                break;
            case 1:
                due(of + "divisor(" + k + ")", x.divisor(k), within(k, 0, 3) ? divisor(rows, k, 3) : BAD_ARG);
                break;
            case 2:
                due(of + "shape(" + k + ")", x.shape(k),
                    within(k, 1, rank(rows, 3)) ? divisor(rows, k, 3) / divisor(rows, k - 1, 3) : NONE);
                break;
            case 3:
                due(of + "spare(" + k + ")", x.spare(k) ? 1 : 0,
                    within(k, 0, rows.size() - 1) && spare(rows, k) ? 1 : 0);
                break;
            case 4:
                due(of + "order(" + a + ", " + b + ", " + c + ")", x.order(a, b, c),
                    good ? order(rows, a, b, c) : BAD_ARG);
                break;
            case 5:
                due(of + "step(" + k + ")", x.step(k), within(k, 0, 2) ? step(rows, k) : BAD_ARG);
                break;
            case 6:
                compareHas(x, rows, a, b, c);
                break;
            case 7:
                due(of + "count(" + k + ")", x.count(k), within(k, 0, 8) ? count(rows, k) : BAD_ARG);
                break;
            default:
                due(of + "rows()", x.rows(), rows.size());
                break;
        }
    }

    private static void compareRuns(int many) {
        for (int run = 0; run < many; run++) {
            IntegerGrids x = new IntegerGrids();
            List<long[]> rows = new ArrayList<>();
            for (int call = 0; call < CALLS_OF_AN_OBJECT; call += 2) {
                change(x, rows);
                ask(x, rows);
            }
        }
    }

    public static void main(String[] args) {
        compareGrids(10000);
        compareRuns(100);
        if (wrong != 0) {
            System.out.println(wrong + " answers are not as due");
            System.exit(1);
        }
    }
}
