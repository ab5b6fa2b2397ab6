import java.util.ArrayList;
import java.util.Arrays;
import java.util.List;
import java.util.NoSuchElementException;

/**
 * A second, plain model of the document, by other ways than the class: trial division for factors,
 * Berlekamp's matrix for irreducible ones, linear equations for inverses, single steps for orders.
 * Polynomials are rows from x^0 on without zeros at the end.
 */
final class PlainModel {
    private static final int[] CUT_DEGREES = {24, 18, 12, 10, 8, 8};
    private final int[][] registers = new int[Checks.REGISTERS][0];
    private final List<int[]> factors = new ArrayList<>();
    private final List<Integer> times = new ArrayList<>();
    private int p = 2;

    int field(int newP) {
        if (indexOf(newP) < 0) {
            throw new IllegalArgumentException();
        }
        int was = p;
        p = newP;
        Arrays.fill(registers, new int[0]);
        factors.clear();
        times.clear();
        return was;
    }

    int set(int r, int i, int v) {
        int was = get(r, i);
        int[] row = Arrays.copyOf(registers[r], Math.max(registers[r].length, i + 1));
        row[i] = (int) (((long) v % p + p) % p);
        registers[r] = trim(row);
        return was;
    }

    int get(int r, int i) {
        need(r);
        if (i < 0 || i > 24) {
            throw new IllegalArgumentException();
        }
        return at(registers[r], i);
    }

    int join(int to, int op, int a, int b) {
        need(to);
        need(a);
        need(b);
        int[] left = registers[a];
        int[] right = registers[b];
        int[] answer;
        switch (op) {
            case 0: answer = plus(left, right, 1); break;
            case 1: answer = plus(left, right, -1); break;
            case 2: answer = times(left, right); break;
            case 3: answer = divided(left, right)[0]; break;
            case 4: answer = divided(left, right)[1]; break;
            case 5: answer = common(left, right); break;
            case 6: answer = monic(left); break;
            case 7: answer = derived(left); break;
            default: throw new IllegalArgumentException();
        }
        if (answer.length > 25) {
            throw new ArithmeticException();
        }
        return store(to, answer);
    }

    int power(int to, int a, int n, int m) {
        need(to);
        need(a);
        need(m);
        if (n < 0 || registers[m].length < 2) {
            throw new IllegalArgumentException();
        }
        return store(to, raised(registers[a], n, registers[m]));
    }

    int inverse(int to, int a, int m) {
        need(to);
        need(a);
        need(m);
        if (registers[m].length < 2) {
            throw new IllegalArgumentException();
        }
        int[] answer = solved(registers[a], registers[m]);
        if (answer == null) {
            throw new IllegalStateException();
        }
        return store(to, answer);
    }

    int value(int a, int v) {
        need(a);
        long x = Math.floorMod((long) v, (long) p);
        long sum = 0;
        long powerOfX = 1;
        for (int c : registers[a]) {
            sum = (sum + c * powerOfX) % p;
            powerOfX = powerOfX * x % p;
        }
        return (int) sum;
    }

    int zeros(int a) {
        need(a);
        int found = 0;
        for (int v = 0; v < p; v++) {
            found += value(a, v) == 0 ? 1 : 0;
        }
        return found;
    }

    int factor(int a) {
        need(a);
        int[] rest = monic(registers[a]);
        if (rest.length == 0 || rest.length - 1 > CUT_DEGREES[indexOf(p)]) {
            throw new IllegalArgumentException();
        }
        factors.clear();
        times.clear();
        for (int degree = 1; 2 * degree < rest.length; degree++) {
            int[] tried = new int[degree + 1];
            tried[degree] = 1;
            do {
                rest = takeOut(rest, tried);
            } while (next(tried));
        }
        if (rest.length > 1) {
            factors.add(rest);
            times.add(1);
        }
        return factors.size();
    }

    int piece(int to, int i) {
        need(to);
        if (i < 0 || i >= factors.size()) {
            throw new NoSuchElementException();
        }
        store(to, factors.get(i));
        return times.get(i);
    }

    boolean irreducible(int a) {
        need(a);
        int[] m = registers[a];
        int degree = m.length - 1;
        if (degree < 1 || common(m, derived(m)).length != 1) {
            return false;
        }
        int[][] matrix = new int[degree][];
        for (int i = 0; i < degree; i++) {
            matrix[i] = Arrays.copyOf(raised(new int[] {0, 1}, i * p, m), degree);
            matrix[i][i] = Math.floorMod(matrix[i][i] - 1, p);
        }
        return rank(matrix, degree) == degree - 1;
    }

    int order(int a) {
        need(a);
        int[] m = registers[a];
        int degree = m.length - 1;
        if (degree < 1) {
            throw new IllegalArgumentException();
        }
        int[] monic = monic(m);
        int[] row = new int[degree];
        row[0] = 1;
        int[] one = row.clone();
        for (int n = 1; n <= 100_000; n++) {
            int over = row[degree - 1];
            for (int i = degree - 1; i >= 0; i--) {
                row[i] = ((i > 0 ? row[i - 1] : 0) + (p - over) * monic[i]) % p;
            }
            if (Arrays.equals(row, one)) {
                return n;
            }
        }
        return 0;
    }

    int linear(int to, int a) {
        need(to);
        need(a);
        if (registers[a].length == 0) {
            throw new IllegalArgumentException();
        }
        int[] rest = registers[a];
        int[] product = {1};
        for (int v = 0; v < p; v++) {
            int[] root = {(p - v) % p, 1};
            while (rest.length > 1 && divided(rest, root)[1].length == 0) {
                rest = divided(rest, root)[0];
                product = times(product, root);
            }
        }
        return store(to, product);
    }

    int count(int what) {
        return what == 0 ? p : what == 1 ? factors.size() : -1;
    }

    /** Sets these coefficients, from x^0 on, and no others. */
    void fill(int r, int... coefficients) {
        for (int i = 0; i < coefficients.length; i++) {
            set(r, i, coefficients[i]);
        }
    }

    int[] row(int r) {
        return Arrays.copyOf(registers[r], Checks.TOP_DEGREE + 1);
    }

    private static void need(int r) {
        if (r < 0 || r > 15) {
            throw new NoSuchElementException();
        }
    }

    private static int indexOf(int p) {
        return Arrays.binarySearch(Checks.FIELDS, p);
    }

    private int store(int to, int[] row) {
        registers[to] = row;
        return row.length - 1;
    }

    private static int at(int[] row, int i) {
        return i < row.length ? row[i] : 0;
    }

    private static int[] trim(int[] row) {
        int length = row.length;
        while (length > 0 && row[length - 1] == 0) {
            length--;
        }
        return Arrays.copyOf(row, length);
    }

    private int numberInverse(int v) {
        for (int w = 1; w < p; w++) {
            if (v * w % p == 1) {
                return w;
            }
        }
        throw new AssertionError("no inverse of " + v);
    }

    private int[] plus(int[] a, int[] b, int sign) {
        int[] sum = new int[Math.max(a.length, b.length)];
        for (int i = 0; i < sum.length; i++) {
            sum[i] = Math.floorMod(at(a, i) + sign * at(b, i), p);
        }
        return trim(sum);
    }

    private int[] times(int[] a, int[] b) {
        int[] product = new int[a.length + b.length];
        for (int i = 0; i < a.length; i++) {
            for (int j = 0; j < b.length; j++) {
                product[i + j] = (product[i + j] + a[i] * b[j]) % p;
            }
        }
        return trim(product);
    }

    /** Quotient and rest. */
    private int[][] divided(int[] a, int[] b) {
        if (b.length == 0) {
            throw new IllegalArgumentException();
        }
        int[] rest = a.clone();
        int[] quotient = new int[Math.max(0, a.length - b.length + 1)];
        int inverse = numberInverse(b[b.length - 1]);
        for (int shift = quotient.length - 1; shift >= 0; shift--) {
            quotient[shift] = rest[shift + b.length - 1] * inverse % p;
            for (int j = 0; j < b.length; j++) {
                rest[shift + j] = Math.floorMod(rest[shift + j] - quotient[shift] * b[j], p);
            }
        }
        return new int[][] {trim(quotient), trim(rest)};
    }

    private int[] common(int[] a, int[] b) {
        return b.length == 0 ? monic(a) : common(b, divided(a, b)[1]);
    }

    private int[] monic(int[] a) {
        return a.length == 0 ? a : times(a, new int[] {numberInverse(a[a.length - 1])});
    }

    private int[] derived(int[] a) {
        int[] answer = new int[Math.max(0, a.length - 1)];
        for (int i = 0; i < answer.length; i++) {
            answer[i] = (i + 1) * a[i + 1] % p;
        }
        return trim(answer);
    }

    private int[] raised(int[] a, int n, int[] m) {
        if (n == 0) {
            return new int[] {1};
        }
        int[] half = raised(a, n / 2, m);
        int[] square = divided(times(half, half), m)[1];
        return n % 2 == 0 ? square : divided(times(square, a), m)[1];
    }

    /** The row y with a y = 1 modulo m by elimination; null if there is none. */
    private int[] solved(int[] a, int[] m) {
        int degree = m.length - 1;
        int[][] equations = new int[degree][degree + 1];
        int[] column = divided(a, m)[1];
        for (int j = 0; j < degree; j++) {
            for (int i = 0; i < degree; i++) {
                equations[i][j] = at(column, i);
            }
            column = divided(times(column, new int[] {0, 1}), m)[1];
        }
        equations[0][degree] = 1;
        if (rank(equations, degree) < degree) {
            return null;
        }
        int[] answer = new int[degree];
        for (int i = 0; i < degree; i++) {
            answer[i] = equations[i][degree];
        }
        return trim(answer);
    }

    /** Brings the rows to steps with leading 1 and nothing above or below it. */
    private int rank(int[][] rows, int columns) {
        int rank = 0;
        for (int c = 0; c < columns && rank < rows.length; c++) {
            int pivot = rank;
            while (pivot < rows.length && rows[pivot][c] == 0) {
                pivot++;
            }
            if (pivot == rows.length) {
                continue;
            }
            int[] lead = rows[pivot];
            rows[pivot] = rows[rank];
            rows[rank] = lead;
            int inverse = numberInverse(lead[c]);
            for (int i = 0; i < lead.length; i++) {
                lead[i] = lead[i] * inverse % p;
            }
            for (int[] row : rows) {
                int factor = row == lead ? 0 : row[c];
                for (int i = 0; i < row.length; i++) {
                    row[i] = Math.floorMod(row[i] - factor * lead[i], p);
                }
            }
            rank++;
        }
        return rank;
    }

    private int[] takeOut(int[] rest, int[] tried) {
        int often = 0;
        int[] left = rest;
        int[][] parts = divided(left, tried);
        while (left.length >= tried.length && parts[1].length == 0) {
            often++;
            left = parts[0];
            parts = divided(left, tried);
        }
        if (often > 0) {
            factors.add(tried.clone());
            times.add(often);
        }
        return left;
    }

    /** The next monic one of the same degree, in the order of the list. */
    private boolean next(int[] tried) {
        for (int i = 0; i < tried.length - 1; i++) {
            tried[i]++;
            if (tried[i] < p) {
                return true;
            }
            tried[i] = 0;
        }
        return false;
    }
}
