import java.util.NoSuchElementException;

/** Promise 12 (irreducible). */
public final class IrreducibleTest {
    public static void main(String[] args) {
        ofDegreeBelowTwo();
        howManyThereAre();
        knownOnesOfHighDegree();
        productsOfHighDegree();
        againstTheMatrix();
        changesNothing();
        Checks.end();
    }

    private static void ofDegreeBelowTwo() {
        for (int p : Checks.FIELDS) {
            FieldFactors f = Checks.over(p);
            Checks.due("0", f.irreducible(0), false);
            for (int v = 1; v < p; v++) {
                f.set(0, 0, v);
                Checks.due("the number " + v, f.irreducible(0), false);
            }
            for (int lead = 1; lead < p; lead++) {
                for (int v = 0; v < p; v++) {
                    Checks.fill(f, 1, v, lead);
                    Checks.due("of degree 1", f.irreducible(1), true);
                }
            }
        }
    }

    /** By Gauss there are (p^d - ..) / d monic ones of degree d; all (p - 1) multiples count here. */
    private static void howManyThereAre() {
        dueMany(2, 2, 1);
        dueMany(2, 3, 2);
        dueMany(2, 4, 3);
        dueMany(2, 5, 6);
        dueMany(2, 6, 9);
        dueMany(2, 12, 335);
        dueMany(3, 2, 3);
        dueMany(3, 3, 8);
        dueMany(3, 4, 18);
        dueMany(3, 6, 116);
        dueMany(5, 2, 10);
        dueMany(5, 3, 40);
        dueMany(5, 4, 150);
        dueMany(7, 2, 21);
        dueMany(7, 3, 112);
        dueMany(11, 2, 55);
        dueMany(13, 2, 78);
        dueMany(13, 3, 728);
    }

    private static void dueMany(int p, int degree, int want) {
        int all = p - 1;
        for (int i = 0; i < degree; i++) {
            all *= p;
        }
        int found = 0;
        for (int number = 0; number < all; number++) {
            int[] a = Checks.digits(number, p, degree + 1);
            a[degree]++;
            FieldFactors f = Checks.over(p);
            Checks.fill(f, 0, a);
            found += f.irreducible(0) ? 1 : 0;
        }
        Checks.due("irreducible ones over " + p + " of degree " + degree, found, want * (p - 1));
    }

    private static void dueBinomial(int p, int degree, int c, boolean want) {
        FieldFactors f = Checks.over(p);
        f.set(0, degree, p - 1);
        f.set(0, 0, c);
        Checks.due("-x^" + degree + " + " + c + " over " + p, f.irreducible(0), want);
    }

    /** 1 + x + .. + x^(n - 1) for a prime n is irreducible where p is a primitive root of n. */
    private static void dueSumOfPowers(int p, int n, boolean want) {
        FieldFactors f = Checks.over(p);
        for (int i = 0; i < n; i++) {
            f.set(0, i, p - 1);
        }
        Checks.due("the sum of " + n + " powers over " + p, f.irreducible(0), want);
    }

    private static void knownOnesOfHighDegree() {
        dueBinomial(13, 24, 2, true);
        dueBinomial(13, 24, 3, false);
        dueBinomial(13, 24, 4, false);
        dueBinomial(5, 16, 2, true);
        dueBinomial(5, 24, 2, false);
        dueBinomial(7, 18, 3, true);
        dueBinomial(7, 24, 3, false);
        dueBinomial(11, 10, 2, true);
        dueBinomial(11, 20, 2, false);
        dueSumOfPowers(2, 13, true);
        dueSumOfPowers(2, 19, true);
        dueSumOfPowers(2, 17, false);
        dueSumOfPowers(2, 23, false);
        dueSumOfPowers(3, 19, true);
        dueSumOfPowers(3, 23, false);
        dueSumOfPowers(5, 23, true);
        dueSumOfPowers(7, 23, true);
        dueSumOfPowers(11, 23, true);
        dueSumOfPowers(13, 19, true);
        dueSumOfPowers(13, 23, false);
        for (int p : Checks.FIELDS) {
            FieldFactors f = Checks.over(p);
            f.set(0, p, 1);
            f.set(0, 1, -1);
            f.set(0, 0, 1);
            Checks.due("x^p - x + 1 over " + p, f.irreducible(0), true);
        }
    }

    private static void productsOfHighDegree() {
        for (int p : Checks.FIELDS) {
            for (int number = 0; number < 40; number++) {
                FieldFactors f = Checks.over(p);
                for (int i = 0; i <= 12; i++) {
                    f.set(0, i, i == 12 ? 1 : number * 31 + i * i * 7 + number * i);
                    f.set(1, i, i == 12 ? 1 : number * 17 + i * 5 + 1);
                }
                f.join(2, 2, 0, 1);
                f.join(3, 2, 0, 0);
                Checks.due("a product", f.irreducible(2), false);
                Checks.due("a square", f.irreducible(3), false);
            }
        }
    }

    private static void againstTheMatrix() {
        for (int p : Checks.FIELDS) {
            int digits = p;
            for (int n = 0; n < 400; n++) {
                int[] a = new int[3 + n % 23];
                for (int i = 0; i < a.length; i++) {
                    digits = digits * 1_103_515_245 + 12345;
                    a[i] = digits >>> 16;
                }
                FieldFactors f = Checks.over(p);
                PlainModel model = new PlainModel();
                model.field(p);
                Checks.fill(f, 0, a);
                model.fill(0, a);
                Checks.due("number " + n + " over " + p, f.irreducible(0), model.irreducible(0));
            }
        }
    }

    private static FieldFactors filled() {
        FieldFactors f = Checks.over(7);
        Checks.fill(f, 0, 6, 0, 3);
        f.factor(0);
        return f;
    }

    private static void changesNothing() {
        for (int r : Checks.NO_REGISTERS) {
            Checks.refuses(IrreducibleTest::filled, "irreducible of " + r, NoSuchElementException.class, f -> f.irreducible(r));
        }
        Checks.changesNothing(IrreducibleTest::filled, "irreducible", f -> f.irreducible(0));
        Checks.changesNothing(IrreducibleTest::filled, "irreducible of 0", f -> f.irreducible(1));
    }
}
