import java.util.Arrays;
import java.util.NoSuchElementException;
import java.util.function.Supplier;

/** Promise 5 (join). */
public final class JoinTest {
    public static void main(String[] args) {
        sums();
        products();
        quotientsAndRests();
        commonDivisors();
        monicOnes();
        derivatives();
        topDegrees();
        targetAmongOperands();
        refusals();
        tooHighDegrees();
        listStays();
        Checks.end();
    }

    private static FieldFactors two(int p, int[] a, int[] b) {
        FieldFactors f = Checks.over(p);
        Checks.fill(f, 0, a);
        Checks.fill(f, 1, b);
        Checks.fillWithOnes(f, 2);
        return f;
    }

    /** Also that the operands stay as they were. */
    private static void dueJoin(int p, int op, int[] a, int[] b, int... want) {
        FieldFactors f = two(p, a, b);
        String what = "join " + op + " over " + p;
        Checks.due(what, f.join(2, op, 0, 1), want.length - 1);
        Checks.dueRow(what + ": the answer", f, 2, want);
        Checks.dueRow(what + ": a", f, 0, a);
        Checks.dueRow(what + ": b", f, 1, b);
    }

    private static int[] of(int... coefficients) {
        return coefficients;
    }

    private static int[] powerOfX(int exponent) {
        int[] row = new int[exponent + 1];
        row[exponent] = 1;
        return row;
    }

    private static void sums() {
        dueJoin(7, 0, of(1, 2, 3), of(6, 6), 0, 1, 3);
        dueJoin(7, 0, of(1, 2, 3), of(6, 5, 4));
        dueJoin(5, 0, of(1, 2, 3), of(1, 1, 2), 2, 3);
        dueJoin(13, 0, of(), of(4, 12), 4, 12);
        dueJoin(13, 0, of(4, 12), of(), 4, 12);
        dueJoin(2, 0, of(), of());
        dueJoin(7, 1, of(1, 2, 3), of(6, 6), 2, 3, 3);
        dueJoin(7, 1, of(1, 2, 3), of(1, 2, 3));
        dueJoin(7, 1, of(), of(1, 2, 3), 6, 5, 4);
        dueJoin(3, 1, of(1), of(1, 0, 2), 0, 0, 1);
        dueJoin(2, 1, powerOfX(24), powerOfX(24));
    }

    private static void products() {
        dueJoin(5, 2, of(1, 2), of(3, 4), 3, 0, 3);
        dueJoin(13, 2, of(12, 12, 12), of(12, 12), 1, 2, 2, 1);
        dueJoin(3, 2, of(), of(1, 2));
        dueJoin(3, 2, of(1, 2), of());
        dueJoin(3, 2, of(2), of(1, 2), 2, 1);
        dueJoin(2, 2, powerOfX(12), powerOfX(12), powerOfX(24));
        dueJoin(11, 2, powerOfX(24), of(7), 0, 0, 0, 0, 0, 0, 0, 0, 0, 0, 0, 0, 0, 0, 0, 0, 0, 0, 0, 0, 0, 0, 0, 0, 7);
        dueJoin(11, 2, powerOfX(24), of());
    }

    private static void quotientsAndRests() {
        dueJoin(7, 3, of(1, 2, 3, 4), of(5, 2), 1, 0, 2);
        dueJoin(7, 4, of(1, 2, 3, 4), of(5, 2), 3);
        dueJoin(5, 3, of(4, 0, 1), of(1, 1), 4, 1);
        dueJoin(5, 4, of(4, 0, 1), of(1, 1));
        dueJoin(5, 3, of(4, 1), of(1, 1, 1));
        dueJoin(5, 4, of(4, 1), of(1, 1, 1), 4, 1);
        dueJoin(5, 3, of(4, 1, 2), of(3), 3, 2, 4);
        dueJoin(5, 4, of(4, 1, 2), of(3));
        dueJoin(5, 3, of(), of(3, 1));
        dueJoin(5, 4, of(), of(3, 1));
        dueJoin(13, 3, powerOfX(24), powerOfX(20), powerOfX(4));
        dueJoin(2, 4, powerOfX(24), of(1, 0, 1), 1);
    }

    private static void commonDivisors() {
        dueJoin(7, 5, of(), of());
        dueJoin(7, 5, of(2, 4), of(), 4, 1);
        dueJoin(7, 5, of(), of(2, 4), 4, 1);
        dueJoin(7, 5, of(3), of(5, 1, 1), 1);
        dueJoin(7, 5, of(3), of(), 1);
        dueJoin(7, 5, of(6, 0, 1), of(3, 3), 1, 1);
        dueJoin(7, 5, of(3, 3), of(6, 0, 1), 1, 1);
        dueJoin(2, 5, of(1, 0, 0, 0, 0, 0, 1), of(1, 0, 0, 0, 1), 1, 0, 1);
        dueJoin(13, 5, of(2, 3, 5), of(4, 6, 10), 3, 11, 1);
    }

    private static void monicOnes() {
        dueJoin(7, 6, of(1, 2, 3), of(5), 5, 3, 1);
        dueJoin(7, 6, of(), of(1));
        dueJoin(13, 6, of(12), of(), 1);
        dueJoin(11, 6, of(5, 1), of(), 5, 1);
    }

    private static void derivatives() {
        dueJoin(7, 7, of(1, 2, 3, 4), of(), 2, 6, 5);
        dueJoin(7, 7, of(5), of(1, 1));
        dueJoin(7, 7, of(), of(1, 1));
        dueJoin(5, 7, of(3, 0, 0, 0, 0, 2), of());
        dueJoin(3, 7, of(1, 2, 0, 1), of(), 2);
        dueJoin(2, 7, powerOfX(24), of());
        dueJoin(13, 7, powerOfX(24), of(), 0, 0, 0, 0, 0, 0, 0, 0, 0, 0, 0, 0, 0, 0, 0, 0, 0, 0, 0, 0, 0, 0, 0, 11);
    }

    /** Each operation with operands that fill the row, all over 7. */
    private static void topDegrees() {
        int[] all = new int[Checks.TOP_DEGREE + 1];
        Arrays.fill(all, 6);
        int[] twice = new int[Checks.TOP_DEGREE + 1];
        Arrays.fill(twice, 5);
        dueJoin(7, 0, all, all, twice);
        dueJoin(7, 1, all, twice, times(all, 6));
        dueJoin(7, 2, all, of(2), twice);
        dueJoin(7, 2, of(2), all, twice);
        dueJoin(7, 3, twice, of(2), all);
        dueJoin(7, 4, twice, of(2));
        dueJoin(7, 3, twice, all, 2);
        dueJoin(7, 4, twice, all);
        dueJoin(7, 3, powerOfX(24), all, 6);
        dueJoin(7, 4, powerOfX(23), all, powerOfX(23));
        dueJoin(7, 5, all, twice, times(all, 6));
        dueJoin(7, 5, all, of(), times(all, 6));
        dueJoin(7, 5, minusOne(24), minusOne(18), minusOne(6));
        dueJoin(7, 5, minusOne(23), minusOne(24), minusOne(1));
        dueJoin(7, 6, twice, of(), times(all, 6));
        dueJoin(7, 7, powerOfX(22), of(), powerOfX(21));
        dueJoin(7, 7, powerOfX(24), of(), times(powerOfX(23), 3));
    }

    /** x^exponent - 1, over 7. */
    private static int[] minusOne(int exponent) {
        int[] row = powerOfX(exponent);
        row[0] = 6;
        return row;
    }

    private static int[] times(int[] a, int number) {
        int[] row = a.clone();
        for (int i = 0; i < row.length; i++) {
            row[i] = row[i] * number % 7;
        }
        return row;
    }

    private static void targetAmongOperands() {
        for (int op = 0; op <= 7; op++) {
            FieldFactors apart = two(7, of(6, 1, 1, 5), of(3, 2, 4));
            int degree = apart.join(2, op, 0, 1);
            for (int to = 0; to <= 1; to++) {
                FieldFactors f = two(7, of(6, 1, 1, 5), of(3, 2, 4));
                Checks.due("join " + op + " into operand " + to, f.join(to, op, 0, 1), degree);
                Checks.dueRow("join " + op + " into operand " + to, f, to, Checks.row(apart, 2));
            }
            FieldFactors same = two(7, of(6, 1, 1, 5), of(6, 1, 1, 5));
            FieldFactors all = two(7, of(6, 1, 1, 5), of());
            Checks.due("join " + op + " of one with itself", all.join(0, op, 0, 0), same.join(2, op, 0, 1));
            Checks.dueRow("join " + op + " of one with itself", all, 0, Checks.row(same, 2));
        }
    }

    private static void refusals() {
        Supplier<FieldFactors> start = () -> {
            FieldFactors f = Checks.over(5);
            Checks.fill(f, 0, 1, 2);
            Checks.fill(f, 2, 3, 1, 4);
            f.factor(0);
            return f;
        };
        for (int r : Checks.NO_REGISTERS) {
            for (int op : new int[] {0, 1, 2, 3, 4, 5, 6, 7, 8, -1}) {
                String what = "join " + op + " with register " + r;
                Checks.refuses(start, what + " as to", NoSuchElementException.class, f -> f.join(r, op, 0, 1));
                Checks.refuses(start, what + " as a", NoSuchElementException.class, f -> f.join(2, op, r, 1));
                Checks.refuses(start, what + " as b", NoSuchElementException.class, f -> f.join(2, op, 0, r));
            }
        }
        for (int op : new int[] {-1, 8, 9, Integer.MAX_VALUE, Integer.MIN_VALUE}) {
            Checks.refuses(start, "join " + op, IllegalArgumentException.class, f -> f.join(2, op, 0, 1));
        }
        Checks.refuses(start, "the quotient by 0", IllegalArgumentException.class, f -> f.join(2, 3, 0, 1));
        Checks.refuses(start, "the rest by 0", IllegalArgumentException.class, f -> f.join(2, 4, 0, 1));
        Checks.refuses(start, "the quotient of 0 by 0", IllegalArgumentException.class, f -> f.join(2, 3, 1, 1));
        Checks.refuses(start, "the rest of 0 by 0", IllegalArgumentException.class, f -> f.join(2, 4, 1, 1));
    }

    private static void tooHighDegrees() {
        Supplier<FieldFactors> start = () -> {
            FieldFactors f = Checks.over(11);
            f.set(0, 24, 1);
            f.set(1, 13, 1);
            f.set(2, 12, 1);
            f.set(3, 1, 1);
            f.factor(3);
            return f;
        };
        Checks.refuses(start, "x^13 x^12", ArithmeticException.class, f -> f.join(3, 2, 1, 2));
        Checks.refuses(start, "x^13 x^13", ArithmeticException.class, f -> f.join(1, 2, 1, 1));
        Checks.refuses(start, "x^24 x", ArithmeticException.class, f -> f.join(3, 2, 0, 3));
        Checks.refuses(start, "x x^24", ArithmeticException.class, f -> f.join(0, 2, 3, 0));
        Checks.refuses(start, "x^24 x^24", ArithmeticException.class, f -> f.join(0, 2, 0, 0));
        Checks.refuses(start, "another op before the degree", IllegalArgumentException.class, f -> f.join(2, 8, 0, 0));
        Checks.refuses(start, "a register before the degree", NoSuchElementException.class, f -> f.join(16, 2, 0, 0));
    }

    /** The list of factors stays as it was. */
    private static void listStays() {
        for (int op = 0; op <= 7; op++) {
            FieldFactors f = two(7, of(6, 0, 1), of(3, 2, 4));
            f.factor(0);
            f.join(0, op, 0, 1);
            Checks.due("the list behind join " + op, f.count(1), 2);
            f.piece(3, 1);
            Checks.dueRow("piece 1 behind join " + op, f, 3, 6, 1);
        }
    }
}
