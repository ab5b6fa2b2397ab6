import java.util.NoSuchElementException;
import java.util.function.Supplier;

/** Promises 8 (value), 9 (zeros) and 14 (linear). */
public final class ZerosTest {
    public static void main(String[] args) {
        values();
        valueRefusals();
        zeros();
        topDegree();
        zerosRefusals();
        linearOnes();
        linearOfFullProducts();
        linearTargets();
        linearRefusals();
        Checks.end();
    }

    private static void values() {
        FieldFactors f = Checks.over(7);
        Checks.fill(f, 0, 3, 0, 2, 1);
        int[] want = {3, 6, 5, 6, 1, 3, 4};
        for (int v = 0; v < 7; v++) {
            Checks.due("value at " + v, f.value(0, v), want[v]);
            Checks.due("value at " + (v - 7), f.value(0, v - 7), want[v]);
            Checks.due("value at " + (v + 700), f.value(0, v + 700), want[v]);
        }
        Checks.due("value at MAX", f.value(0, Integer.MAX_VALUE), want[Integer.MAX_VALUE % 7]);
        Checks.due("value at MIN", f.value(0, Integer.MIN_VALUE), want[Math.floorMod(Integer.MIN_VALUE, 7)]);
        Checks.due("value of 0", f.value(1, 4), 0);
        Checks.fill(f, 1, 5);
        Checks.due("value of 5", f.value(1, 4), 5);
        f.field(13);
        f.set(2, 24, 12);
        Checks.due("-(12^24)", f.value(2, 12), 12);
        Checks.due("-(2^24)", f.value(2, 2), 12);
    }

    /** 0: x^2 - 1, 1: 0, 2: x + 3, over 7. */
    private static FieldFactors filled() {
        FieldFactors f = Checks.over(7);
        Checks.fill(f, 0, 6, 0, 1);
        Checks.fill(f, 2, 3, 1);
        f.factor(0);
        return f;
    }

    private static void valueRefusals() {
        for (int r : Checks.NO_REGISTERS) {
            Checks.refuses(ZerosTest::filled, "value of " + r, NoSuchElementException.class, f -> f.value(r, 0));
        }
        Checks.changesNothing(ZerosTest::filled, "value", f -> f.value(0, 3));
    }

    private static void zeros() {
        for (int p : Checks.FIELDS) {
            FieldFactors f = Checks.over(p);
            Checks.due("zeros of 0", f.zeros(0), p);
            f.set(0, 0, 1);
            Checks.due("zeros of 1", f.zeros(0), 0);
            f.set(0, 0, 0);
            f.set(0, p, 1);
            Checks.due("zeros of x^p", f.zeros(0), 1);
            f.set(0, 1, -1);
            Checks.due("zeros of x^p - x", f.zeros(0), p);
            f.set(0, 0, 1);
            Checks.due("zeros of x^p - x + 1", f.zeros(0), 0);
            f.set(0, 0, 0);
            f.set(0, 1, 0);
            f.set(0, p, 0);
            f.set(0, p - 1, 1);
            f.set(0, 0, -1);
            Checks.due("zeros of x^(p - 1) - 1", f.zeros(0), p - 1);
        }
        FieldFactors f = Checks.over(5);
        Checks.fill(f, 0, 1, 0, 1);
        Checks.due("zeros of x^2 + 1 over 5", f.zeros(0), 2);
        Checks.fill(f, 0, 1, 2, 1);
        Checks.due("a double zero counts once", f.zeros(0), 1);
    }

    /** x^24 - 1 has as many zeros as the greatest common divisor of 24 and p - 1 tells. */
    private static void topDegree() {
        int[] zeros = {1, 2, 4, 6, 2, 12};
        for (int k = 0; k < zeros.length; k++) {
            FieldFactors f = Checks.over(Checks.FIELDS[k]);
            f.set(0, 24, 1);
            Checks.due("zeros of x^24", f.zeros(0), 1);
            f.set(0, 0, -1);
            Checks.due("zeros of x^24 - 1 over " + Checks.FIELDS[k], f.zeros(0), zeros[k]);
            Checks.due("x^24 - 1 at 0", f.value(0, 0), Checks.FIELDS[k] - 1);
            Checks.due("x^24 - 1 at p", f.value(0, Checks.FIELDS[k]), Checks.FIELDS[k] - 1);
            Checks.due("x^24 - 1 at -1", f.value(0, -1), 0);
        }
    }

    private static void zerosRefusals() {
        for (int r : Checks.NO_REGISTERS) {
            Checks.refuses(ZerosTest::filled, "zeros of " + r, NoSuchElementException.class, f -> f.zeros(r));
        }
        Checks.changesNothing(ZerosTest::filled, "zeros", f -> f.zeros(0));
    }

    private static void dueLinear(int p, int[] a, int... want) {
        FieldFactors f = Checks.over(p);
        Checks.fill(f, 0, a);
        Checks.fillWithOnes(f, 1);
        Checks.due("linear over " + p, f.linear(1, 0), want.length - 1);
        Checks.dueRow("linear over " + p + ": the answer", f, 1, want);
        Checks.dueRow("linear over " + p + ": a", f, 0, a);
    }

    private static int[] of(int... coefficients) {
        return coefficients;
    }

    private static void linearOnes() {
        dueLinear(7, of(3), 1);
        dueLinear(7, of(1, 0, 1), 1);
        dueLinear(7, of(3, 0, 3), 1);
        dueLinear(5, of(1, 0, 1), 1, 0, 1);
        dueLinear(5, of(0, 0, 3), 0, 0, 1);
        dueLinear(5, of(4, 3), 3, 1);
        dueLinear(2, of(1, 0, 1), 1, 0, 1);
        dueLinear(3, of(0, 0, 2, 0, 2), 0, 0, 1);
        dueLinear(3, of(1, 0, 0, 0, 0, 0, 0, 0, 0, 1), 1, 0, 0, 0, 0, 0, 0, 0, 0, 1);
        dueLinear(7, of(6, 1, 6, 1), 6, 1);
        int[] withoutZeros = new int[25];
        withoutZeros[24] = 1;
        withoutZeros[0] = 11;
        dueLinear(13, withoutZeros, 1);
    }

    /** (x - 1)^24 and (x - 0)^24 fill the row; x^p - x times itself has every zero twice. */
    private static void linearOfFullProducts() {
        for (int p : Checks.FIELDS) {
            FieldFactors f = Checks.over(p);
            Checks.fill(f, 0, 1);
            Checks.fill(f, 1, -1, 1);
            for (int i = 0; i < 24; i++) {
                f.join(0, 2, 0, 1);
            }
            Checks.due("linear of (x - 1)^24", f.linear(2, 0), 24);
            Checks.dueRow("linear of (x - 1)^24", f, 2, Checks.row(f, 0));
            linearOfPower(p);
            if (p <= 11) {
                linearOfSquare(p);
            }
        }
    }

    private static void linearOfPower(int p) {
        FieldFactors f = Checks.over(p);
        f.set(0, 24, p - 1);
        Checks.due("linear of -x^24", f.linear(2, 0), 24);
        f.set(0, 24, 1);
        Checks.dueRow("linear of -x^24", f, 2, Checks.row(f, 0));
    }

    private static void linearOfSquare(int p) {
        FieldFactors f = Checks.over(p);
        f.set(3, 1, -1);
        f.set(3, p, 1);
        f.join(4, 2, 3, 3);
        Checks.due("linear of (x^p - x)^2", f.linear(5, 4), 2 * p);
        Checks.dueRow("linear of (x^p - x)^2", f, 5, Checks.row(f, 4));
    }

    private static void linearTargets() {
        FieldFactors f = Checks.over(7);
        Checks.fill(f, 0, 6, 1, 6, 1);
        Checks.due("linear into a", f.linear(0, 0), 1);
        Checks.dueRow("linear into a", f, 0, 6, 1);
    }

    private static void linearRefusals() {
        Supplier<FieldFactors> start = ZerosTest::filled;
        for (int r : Checks.NO_REGISTERS) {
            Checks.refuses(start, "linear to " + r, NoSuchElementException.class, f -> f.linear(r, 0));
            Checks.refuses(start, "linear of " + r, NoSuchElementException.class, f -> f.linear(0, r));
            Checks.refuses(start, "linear of 0 to " + r, NoSuchElementException.class, f -> f.linear(r, 1));
        }
        Checks.refuses(start, "linear of 0", IllegalArgumentException.class, f -> f.linear(0, 1));
        Checks.refuses(start, "linear of 0 into 0", IllegalArgumentException.class, f -> f.linear(1, 1));
        FieldFactors f = start.get();
        f.linear(0, 2);
        Checks.due("the list behind linear", f.piece(1, 1), 1);
        Checks.dueRow("the list behind linear", f, 1, 6, 1);
    }
}
