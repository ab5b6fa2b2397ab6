import java.util.NoSuchElementException;
import java.util.function.Supplier;

/** Promises 10 (factor) and 11 (piece). */
public final class FactorTest {
    private static final int[] CUT_DEGREES = {24, 18, 12, 10, 8, 8};

    public static void main(String[] args) {
        knownFactors();
        factorsOfNumbers();
        allSmallOnes();
        orderOfTheList();
        longestLists();
        manyOfOneDegree();
        powersOfOne();
        highestDegrees();
        listStays();
        factorRefusals();
        pieceRefusals();
        Checks.end();
    }

    private static int[] of(int... coefficients) {
        return coefficients;
    }

    private static void dueFactors(int p, int[] a, int[] times, int[]... factors) {
        FieldFactors f = Checks.over(p);
        Checks.fill(f, 0, a);
        Checks.due("factor over " + p, f.factor(0), factors.length);
        Checks.due("count(1) over " + p, f.count(1), factors.length);
        Checks.dueRow("a behind factor over " + p, f, 0, a);
        for (int i = 0; i < factors.length; i++) {
            Checks.fillWithOnes(f, 1);
            Checks.due("piece " + i + " over " + p, f.piece(1, i), times[i]);
            Checks.dueRow("piece " + i + " over " + p, f, 1, factors[i]);
        }
    }

    private static void knownFactors() {
        dueFactors(2, of(0, 1), of(1), of(0, 1));
        dueFactors(7, of(4, 5), of(1), of(5, 1));
        dueFactors(3, of(2, 0, 0, 0, 1), of(1, 1, 1), of(1, 1), of(2, 1), of(1, 0, 1));
        dueFactors(3, of(1, 0, 0, 0, 2), of(1, 1, 1), of(1, 1), of(2, 1), of(1, 0, 1));
        dueFactors(13, of(12, 0, 0, 0, 0, 0, 0, 0, 1), of(1, 1, 1, 1, 1, 1),
                of(1, 1), of(5, 1), of(8, 1), of(12, 1), of(5, 0, 1), of(8, 0, 1));
        dueFactors(2, of(0, 0, 0, 1, 0, 1), of(3, 2), of(0, 1), of(1, 1));
        dueFactors(2, of(0, 1, 0, 0, 0, 0, 0, 0, 1), of(1, 1, 1, 1),
                of(0, 1), of(1, 1), of(1, 1, 0, 1), of(1, 0, 1, 1));
        dueFactors(5, of(0, 0, 0, 0, 0, 2), of(5), of(0, 1));
        dueFactors(11, of(1, 0, 1), of(1), of(1, 0, 1));
    }

    /** By degree, then by the highest power's coefficient that differs, as a number; how often counts nothing. */
    private static void orderOfTheList() {
        dueFactors(13, of(1, 12, 1, 12), of(1, 1, 1), of(5, 1), of(8, 1), of(12, 1));
        dueFactors(13, of(7, 12, 1), of(1, 1), of(2, 1), of(10, 1));
        dueFactors(2, of(1, 1, 1, 1, 1, 1, 1), of(1, 1), of(1, 1, 0, 1), of(1, 0, 1, 1));
        dueFactors(3, of(2, 1, 0, 1, 1), of(1, 1), of(1, 0, 1), of(2, 1, 1));
        dueFactors(3, of(2, 2, 2, 2, 1), of(1, 1), of(2, 1), of(1, 2, 0, 1));
        dueFactors(2, of(0, 1, 1, 1, 1), of(1, 3), of(0, 1), of(1, 1));
        dueFactors(2, of(0, 0, 0, 1, 1), of(3, 1), of(0, 1), of(1, 1));
        dueFactors(2, of(0, 1, 0, 0, 1), of(1, 1, 1), of(0, 1), of(1, 1), of(1, 1, 1));
    }

    /** The first irreducible ones of each field, as many as the degree that can be cut has room for. */
    private static void longestLists() {
        int[] longest = {8, 9, 8, 8, 8, 8};
        for (int k = 0; k < Checks.FIELDS.length; k++) {
            int[] a = productOfTheFirst(Checks.FIELDS[k], CUT_DEGREES[k]);
            compareLists("the longest list", Checks.FIELDS[k], a);
            FieldFactors f = Checks.over(Checks.FIELDS[k]);
            Checks.fill(f, 0, a);
            Checks.due("the longest list over " + Checks.FIELDS[k], f.factor(0), longest[k]);
            f.piece(1, longest[k] - 1);
            dueNoPiece(f, longest[k]);
        }
    }

    private static void dueNoPiece(FieldFactors f, int i) {
        String got = "nothing";
        try {
            f.piece(2, i);
        } catch (NoSuchElementException e) {
            got = "NoSuchElementException";
        }
        Checks.due("piece " + i + " behind the last one", got, "NoSuchElementException");
    }

    private static int[] productOfTheFirst(int p, int highest) {
        PlainModel model = new PlainModel();
        model.field(p);
        model.fill(0, 1);
        int all = p;
        for (int degree = 1; degree <= 4; degree++) {
            for (int number = 0; number < all; number++) {
                model.fill(1, Checks.digits(number, p, degree));
                model.set(1, degree, 1);
                if (model.irreducible(1) && model.join(2, 6, 0, 0) + degree <= highest) {
                    model.join(0, 2, 0, 1);
                }
            }
            all *= p;
        }
        return model.row(0);
    }

    private static void factorsOfNumbers() {
        for (int p : Checks.FIELDS) {
            Supplier<FieldFactors> start = () -> {
                FieldFactors f = Checks.over(p);
                Checks.fill(f, 1, 0, 1, 1);
                Checks.due("factors of x^2 + x", f.factor(1), 2);
                Checks.fill(f, 0, p - 1);
                Checks.due("factors of -1", f.factor(0), 0);
                return f;
            };
            Checks.due("count(1) behind it", start.get().count(1), 0);
            Checks.refuses(start, "piece behind it", NoSuchElementException.class, f -> f.piece(2, 0));
        }
    }

    /** Every polynomial up to a degree, against trial division. */
    private static void allSmallOnes() {
        int[] degrees = {10, 6, 4, 3, 3, 3};
        for (int k = 0; k < Checks.FIELDS.length; k++) {
            int p = Checks.FIELDS[k];
            int all = 1;
            for (int i = 0; i <= degrees[k]; i++) {
                all *= p;
            }
            for (int number = 1; number < all; number++) {
                compareLists("number " + number, p, Checks.digits(number, p, degrees[k] + 1));
            }
        }
    }

    private static void compareLists(String name, int p, int[] a) {
        String what = name + " over " + p;
        FieldFactors f = Checks.over(p);
        PlainModel model = new PlainModel();
        model.field(p);
        Checks.fill(f, 0, a);
        model.fill(0, a);
        int many = model.factor(0);
        Checks.due("factor of " + what, f.factor(0), many);
        for (int i = 0; i < many; i++) {
            Checks.due("piece " + i + " of " + what, f.piece(1, i), model.piece(1, i));
            Checks.dueRow("piece " + i + " of " + what, f, 1, model.row(1));
        }
    }

    /** Products of irreducible ones of one degree, which only the last step can tell apart. */
    private static void manyOfOneDegree() {
        for (int k = 0; k < Checks.FIELDS.length; k++) {
            int p = Checks.FIELDS[k];
            for (int degree = 1; degree <= CUT_DEGREES[k] / 2; degree++) {
                for (int first = 1; first <= 4; first++) {
                    compareLists("a product of degree " + degree, p, product(p, degree, CUT_DEGREES[k], first));
                }
            }
        }
    }

    /** Takes irreducible ones at different distances as long as the degree allows it. */
    private static int[] product(int p, int degree, int highest, int first) {
        PlainModel model = new PlainModel();
        model.field(p);
        model.fill(0, p - 1);
        int number = first * 7919 % 1000;
        for (int tries = 0; tries < 200; tries++) {
            model.fill(1, Checks.digits(number, p, degree));
            model.set(1, degree, 1);
            if (model.irreducible(1) && model.join(2, 6, 0, 0) + degree <= highest) {
                model.join(0, 2, 0, 1);
            }
            number += first;
        }
        return model.row(0);
    }

    private static void powersOfOne() {
        for (int k = 0; k < Checks.FIELDS.length; k++) {
            int p = Checks.FIELDS[k];
            PlainModel model = new PlainModel();
            model.field(p);
            model.fill(1, 1, 1);
            model.fill(0, p - 1);
            for (int often = 1; often <= CUT_DEGREES[k]; often++) {
                model.join(0, 2, 0, 1);
                FieldFactors f = Checks.over(p);
                Checks.fill(f, 0, model.row(0));
                Checks.due("factor of (x + 1)^" + often + " over " + p, f.factor(0), 1);
                Checks.due("piece of (x + 1)^" + often + " over " + p, f.piece(2, 0), often);
                Checks.dueRow("piece of (x + 1)^" + often + " over " + p, f, 2, 1, 1);
            }
        }
        dueFactors(2, of(1, 0, 1, 0, 0, 0, 1), of(2), of(1, 1, 0, 1));
        dueFactors(3, of(1, 0, 0, 0, 0, 0, 1), of(3), of(1, 0, 1));
    }

    private static void highestDegrees() {
        for (int k = 0; k < Checks.FIELDS.length; k++) {
            int p = Checks.FIELDS[k];
            int highest = CUT_DEGREES[k];
            FieldFactors f = Checks.over(p);
            f.set(0, highest, 1);
            Checks.due("factor of x^" + highest + " over " + p, f.factor(0), 1);
            for (int degree = highest + 1; degree <= Checks.TOP_DEGREE; degree++) {
                int power = degree;
                Supplier<FieldFactors> start = () -> {
                    FieldFactors g = Checks.over(p);
                    g.set(1, 1, 1);
                    g.factor(1);
                    g.set(1, power, p - 1);
                    return g;
                };
                Checks.refuses(start, "factor of degree " + power + " over " + p, IllegalArgumentException.class, g -> g.factor(1));
            }
        }
    }

    private static void listStays() {
        FieldFactors f = Checks.over(3);
        Checks.fill(f, 0, 2, 0, 0, 0, 1);
        f.factor(0);
        Checks.fill(f, 0, 1, 2, 1, 2);
        Checks.fill(f, 4, 2);
        f.join(1, 2, 0, 0);
        f.linear(2, 0);
        f.irreducible(0);
        f.order(0);
        f.inverse(3, 4, 0);
        f.power(3, 0, 5, 1);
        f.zeros(0);
        Checks.due("count(1) later", f.count(1), 3);
        Checks.due("piece 2 later", f.piece(5, 2), 1);
        Checks.dueRow("piece 2 later", f, 5, 1, 0, 1);
        f.set(5, 0, 2);
        Checks.due("piece 2 once more", f.piece(6, 2), 1);
        Checks.dueRow("piece 2 is not the register", f, 6, 1, 0, 1);
        Checks.fill(f, 0, 0, 0, 2, 0, 0);
        Checks.due("the next list", f.factor(0), 1);
        Checks.due("its piece", f.piece(0, 0), 2);
        Checks.dueRow("its piece into what was cut", f, 0, 0, 1);
        Checks.due("the list behind that", f.piece(1, 0), 2);
    }

    /** 0: x^2 - 1, which was cut, 1: 0, 2: x^11, over 7. */
    private static FieldFactors filled() {
        FieldFactors f = Checks.over(7);
        Checks.fill(f, 0, 6, 0, 1);
        f.set(2, 11, 1);
        f.factor(0);
        return f;
    }

    private static void factorRefusals() {
        Supplier<FieldFactors> start = FactorTest::filled;
        for (int r : Checks.NO_REGISTERS) {
            Checks.refuses(start, "factor of " + r, NoSuchElementException.class, f -> f.factor(r));
        }
        Checks.refuses(start, "factor of 0", IllegalArgumentException.class, f -> f.factor(1));
        Checks.refuses(start, "factor of x^11 over 7", IllegalArgumentException.class, f -> f.factor(2));
        Checks.changesNothing(start, "the same factors anew", f -> f.factor(0));
    }

    private static void pieceRefusals() {
        Checks.refuses(FieldFactors::new, "piece without a list", NoSuchElementException.class, f -> f.piece(0, 0));
        Supplier<FieldFactors> start = FactorTest::filled;
        for (int r : Checks.NO_REGISTERS) {
            Checks.refuses(start, "piece to " + r, NoSuchElementException.class, f -> f.piece(r, 0));
            Checks.refuses(start, "piece 2 to " + r, NoSuchElementException.class, f -> f.piece(r, 2));
        }
        for (int i : new int[] {-1, 2, 3, 24, 25, Integer.MAX_VALUE, Integer.MIN_VALUE}) {
            Checks.refuses(start, "piece " + i, NoSuchElementException.class, f -> f.piece(0, i));
        }
    }
}
