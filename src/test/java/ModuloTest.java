import java.util.Arrays;
import java.util.NoSuchElementException;
import java.util.function.Supplier;

/** Promises 6 (power) and 7 (inverse). */
public final class ModuloTest {
    public static void main(String[] args) {
        smallPowers();
        zerothPowers();
        largePowers();
        powersOfTopDegree();
        powerTargets();
        powerRefusals();
        inverses();
        inverseOfHigherDegree();
        inversesOfTopDegree();
        inverseTargets();
        allInversesOfSmallFields();
        inverseRefusals();
        Checks.end();
    }

    private static FieldFactors with(int p, int[] a, int[] m) {
        FieldFactors f = Checks.over(p);
        Checks.fill(f, 0, a);
        Checks.fill(f, 1, m);
        Checks.fillWithOnes(f, 2);
        return f;
    }

    private static int[] of(int... coefficients) {
        return coefficients;
    }

    private static void duePower(int p, int[] a, int n, int[] m, int... want) {
        FieldFactors f = with(p, a, m);
        String what = "power " + n + " over " + p;
        Checks.due(what, f.power(2, 0, n, 1), want.length - 1);
        Checks.dueRow(what + ": the answer", f, 2, want);
        Checks.dueRow(what + ": a", f, 0, a);
        Checks.dueRow(what + ": m", f, 1, m);
    }

    private static void smallPowers() {
        duePower(2, of(0, 1), 7, of(1, 1, 0, 1), 1);
        duePower(2, of(0, 1), 3, of(1, 1, 0, 1), 1, 1);
        duePower(5, of(1, 1), 2, of(1, 0, 1), 0, 2);
        duePower(5, of(1, 1), 1, of(1, 0, 1), 1, 1);
        duePower(5, of(1, 1), 1, of(2, 2));
        duePower(5, of(1, 1, 1), 1, of(0, 3, 3), 1);
        duePower(7, of(3), 6, of(0, 1), 1);
        duePower(7, of(), 5, of(1, 0, 1));
        duePower(3, of(0, 1), 4, of(0, 0, 0, 0, 1));
        duePower(13, of(2, 5), 13, of(1, 1, 1, 2), 9, 11, 11);
    }

    private static void zerothPowers() {
        duePower(3, of(), 0, of(1, 0, 1), 1);
        duePower(3, of(1, 0, 1), 0, of(1, 0, 1), 1);
        duePower(3, of(1, 2, 1), 0, of(0, 2), 1);
        for (int p : Checks.FIELDS) {
            duePower(p, of(), 0, of(0, 1), 1);
            duePower(p, of(), 1, of(0, 1));
            duePower(p, of(), Integer.MAX_VALUE, of(0, 1));
            duePower(p, of(0, 1), 0, of(0, 1), 1);
            duePower(p, of(1), 0, of(0, 1), 1);
        }
    }

    private static int[] powerOfX(int exponent) {
        int[] row = new int[exponent + 1];
        row[exponent] = 1;
        return row;
    }

    /** Operands and moduli that fill the row: modulo x - v, x is v. */
    private static void powersOfTopDegree() {
        int[] cyclic = powerOfX(24);
        cyclic[0] = 12;
        duePower(13, powerOfX(23), Integer.MAX_VALUE, cyclic, powerOfX(17));
        duePower(13, powerOfX(24), 1, cyclic, 1);
        duePower(13, powerOfX(24), Integer.MAX_VALUE, cyclic, 1);
        duePower(13, powerOfX(24), 5, powerOfX(24));
        duePower(13, powerOfX(1), 23, powerOfX(24), powerOfX(23));
        duePower(13, powerOfX(1), 24, powerOfX(24));
        duePower(7, powerOfX(23), 2, of(4, 1), 4);
        duePower(2, powerOfX(24), 1, of(1, 1), 1);
    }

    /** By Fermat: the exponent can be brought below the order, which these answers were found by. */
    private static void largePowers() {
        duePower(2, of(0, 1), Integer.MAX_VALUE, of(1, 1, 0, 1), 0, 1);
        duePower(7, of(3), Integer.MAX_VALUE, of(0, 1), 3);
        duePower(13, of(0, 1), Integer.MAX_VALUE, of(11, 1), 11);
        duePower(3, of(0, 1), 1 << 30, of(1, 0, 1), 1);
        duePower(3, of(0, 1), (1 << 30) + 3, of(1, 0, 1), 0, 2);
        FieldFactors f = Checks.over(13);
        Checks.fill(f, 0, 0, 1);
        f.set(1, 24, 1);
        f.set(1, 0, 11);
        Checks.due("x^(24 12) modulo x^24 - 2", f.power(2, 0, 288, 1), 0);
        Checks.dueRow("x^(24 12) modulo x^24 - 2", f, 2, 1);
        Checks.due("x^(288 7000000 + 23)", f.power(2, 0, 288 * 7_000_000 + 23, 1), 23);
    }

    private static void powerTargets() {
        FieldFactors apart = with(7, of(1, 2, 3, 4), of(6, 1, 2));
        int degree = apart.power(2, 0, 11, 1);
        for (int to = 0; to <= 1; to++) {
            FieldFactors f = with(7, of(1, 2, 3, 4), of(6, 1, 2));
            Checks.due("power into operand " + to, f.power(to, 0, 11, 1), degree);
            Checks.dueRow("power into operand " + to, f, to, Checks.row(apart, 2));
        }
        FieldFactors f = with(7, of(1, 2), of());
        Checks.due("a^3 modulo a into a", f.power(0, 0, 3, 0), -1);
        Checks.dueRow("a^3 modulo a into a", f, 0);
    }

    /** 0: 2 x + 1, 1: x^3 + 3 x^2 + 2, 3: the number 4, 4: 0, 5: x^2 - 1, 6: (x - 1) (x - 2). */
    private static FieldFactors filled() {
        FieldFactors f = Checks.over(5);
        Checks.fill(f, 0, 1, 2);
        Checks.fill(f, 1, 2, 0, 3, 1);
        Checks.fill(f, 2, 3, 2, 1);
        Checks.fill(f, 3, 4);
        Checks.fill(f, 5, 4, 0, 1);
        Checks.fill(f, 6, 2, 2, 1);
        f.factor(5);
        return f;
    }

    private static void powerRefusals() {
        Supplier<FieldFactors> start = ModuloTest::filled;
        for (int r : Checks.NO_REGISTERS) {
            Checks.refuses(start, "power to " + r, NoSuchElementException.class, f -> f.power(r, 0, 2, 1));
            Checks.refuses(start, "power of " + r, NoSuchElementException.class, f -> f.power(2, r, 2, 1));
            Checks.refuses(start, "power modulo " + r, NoSuchElementException.class, f -> f.power(2, 0, 2, r));
            Checks.refuses(start, "power -1 to " + r, NoSuchElementException.class, f -> f.power(r, 0, -1, 4));
            Checks.refuses(start, "power -1 of " + r, NoSuchElementException.class, f -> f.power(2, r, -1, 4));
            Checks.refuses(start, "power -1 modulo " + r, NoSuchElementException.class, f -> f.power(2, 0, -1, r));
        }
        Checks.refuses(start, "power -1", IllegalArgumentException.class, f -> f.power(2, 0, -1, 1));
        Checks.refuses(start, "power MIN", IllegalArgumentException.class, f -> f.power(2, 0, Integer.MIN_VALUE, 1));
        Checks.refuses(start, "power modulo 4", IllegalArgumentException.class, f -> f.power(2, 0, 2, 3));
        Checks.refuses(start, "power modulo 0", IllegalArgumentException.class, f -> f.power(2, 0, 2, 4));
        Checks.refuses(start, "power 0 modulo 0", IllegalArgumentException.class, f -> f.power(2, 0, 0, 4));
        Checks.refuses(start, "power 0 modulo 4", IllegalArgumentException.class, f -> f.power(2, 0, 0, 3));
    }

    private static void dueInverse(int p, int[] a, int[] m, int... want) {
        FieldFactors f = with(p, a, m);
        Checks.due("inverse over " + p, f.inverse(2, 0, 1), want.length - 1);
        Checks.dueRow("inverse over " + p + ": the answer", f, 2, want);
        Checks.dueRow("inverse over " + p + ": a", f, 0, a);
        Checks.dueRow("inverse over " + p + ": m", f, 1, m);
    }

    private static void inverses() {
        dueInverse(2, of(0, 1), of(1, 1, 0, 1), 1, 0, 1);
        dueInverse(7, of(3), of(1, 0, 1), 5);
        dueInverse(7, of(3), of(4, 2), 5);
        dueInverse(7, of(0, 1), of(1, 0, 1), 0, 6);
        dueInverse(5, of(1, 1), of(0, 0, 0, 1), 1, 4, 1);
        dueInverse(13, of(1), of(0, 1), 1);
        dueInverse(3, of(2, 1), of(1, 1), 1);
    }

    private static void inverseOfHigherDegree() {
        FieldFactors f = with(11, of(3, 0, 5, 1, 0, 9, 2, 2, 1, 4), of(7, 3, 1, 6));
        int degree = f.inverse(2, 0, 1);
        Checks.due("the degree of the inverse is below m's", degree >= 0 && degree < 3, true);
        f.join(3, 2, 0, 2);
        f.join(3, 4, 3, 1);
        Checks.dueRow("a times its inverse", f, 3, 1);
    }

    /** The degree of the answer may be m's less one, and a may fill the row whatever m is. */
    private static void inversesOfTopDegree() {
        int[] cyclic = powerOfX(24);
        cyclic[0] = 12;
        dueInverse(13, powerOfX(1), cyclic, powerOfX(23));
        dueInverse(13, powerOfX(23), cyclic, powerOfX(1));
        dueInverse(13, powerOfX(24), cyclic, 1);
        dueInverse(13, of(5), powerOfX(24), 8);
        int[] ones = new int[24];
        Arrays.fill(ones, 1);
        dueInverse(2, of(1, 1), powerOfX(24), ones);
        dueInverse(7, powerOfX(23), of(4, 1), 3);
    }

    private static void inverseTargets() {
        FieldFactors apart = with(7, of(1, 2, 3, 4), of(6, 1, 2));
        int degree = apart.inverse(2, 0, 1);
        for (int to = 0; to <= 1; to++) {
            FieldFactors f = with(7, of(1, 2, 3, 4), of(6, 1, 2));
            Checks.due("inverse into operand " + to, f.inverse(to, 0, 1), degree);
            Checks.dueRow("inverse into operand " + to, f, to, Checks.row(apart, 2));
        }
    }

    private static void allInversesOfSmallFields() {
        for (int p : Checks.FIELDS) {
            for (int v = 1; v < p * p * p; v++) {
                int[] a = Checks.digits(v, p, 3);
                Supplier<FieldFactors> start = () -> withoutTarget(p, a);
                FieldFactors f = start.get();
                if (f.join(4, 5, 0, 1) > 0) {
                    Checks.refuses(start, "inverse of " + v, IllegalStateException.class, g -> g.inverse(2, 0, 1));
                } else {
                    Checks.due("inverse of " + v, f.inverse(2, 0, 1) < 4, true);
                    f.join(3, 2, 0, 2);
                    f.join(3, 4, 3, 1);
                    Checks.dueRow(v + " times its inverse over " + p, f, 3, 1);
                }
            }
        }
    }

    private static FieldFactors withoutTarget(int p, int[] a) {
        FieldFactors f = Checks.over(p);
        Checks.fill(f, 0, a);
        Checks.fill(f, 1, p - 1, 1, 1, 0, p - 1);
        return f;
    }

    private static void inverseRefusals() {
        Supplier<FieldFactors> start = ModuloTest::filled;
        for (int r : Checks.NO_REGISTERS) {
            Checks.refuses(start, "inverse to " + r, NoSuchElementException.class, f -> f.inverse(r, 0, 1));
            Checks.refuses(start, "inverse of " + r, NoSuchElementException.class, f -> f.inverse(2, r, 1));
            Checks.refuses(start, "inverse modulo " + r, NoSuchElementException.class, f -> f.inverse(2, 0, r));
            Checks.refuses(start, "inverse to " + r + " modulo 0", NoSuchElementException.class, f -> f.inverse(r, 4, 4));
            Checks.refuses(start, "inverse to " + r + " of 0", NoSuchElementException.class, f -> f.inverse(r, 4, 1));
        }
        Checks.refuses(start, "inverse modulo 4", IllegalArgumentException.class, f -> f.inverse(2, 0, 3));
        Checks.refuses(start, "inverse modulo 0", IllegalArgumentException.class, f -> f.inverse(2, 0, 4));
        Checks.refuses(start, "inverse of 0 modulo 0", IllegalArgumentException.class, f -> f.inverse(2, 4, 4));
        Checks.refuses(start, "inverse of 0", IllegalStateException.class, f -> f.inverse(2, 4, 1));
        Checks.refuses(start, "inverse of m", IllegalStateException.class, f -> f.inverse(2, 1, 1));
        Checks.refuses(start, "inverse of what shares x - 1", IllegalStateException.class, f -> f.inverse(2, 6, 5));
        Checks.refuses(ModuloTest::ofTopDegree, "inverse of x^24 - 1", IllegalStateException.class, f -> f.inverse(2, 0, 1));
        Checks.refuses(ModuloTest::ofTopDegree, "inverse modulo x^24 - 1", IllegalStateException.class, f -> f.inverse(2, 1, 0));
        Checks.refuses(ModuloTest::ofTopDegree, "inverse modulo itself", IllegalStateException.class, f -> f.inverse(2, 0, 0));
    }

    /** 0: x^24 - 1, 1: x + 1, over 11. */
    private static FieldFactors ofTopDegree() {
        FieldFactors f = Checks.over(11);
        f.set(0, 24, 1);
        f.set(0, 0, -1);
        Checks.fill(f, 1, 1, 1);
        f.factor(1);
        return f;
    }
}
