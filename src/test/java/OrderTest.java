import java.util.NoSuchElementException;

/** Promise 13 (order). */
public final class OrderTest {
    public static void main(String[] args) {
        knownOrders();
        ordersOfBinomials();
        noOrder();
        nearTheLimit();
        nearestOrdersOfEachField();
        roundOrders();
        againstSingleSteps();
        refusals();
        Checks.end();
    }

    private static void dueOrder(int want, int p, int... a) {
        FieldFactors f = Checks.over(p);
        Checks.fill(f, 0, a);
        Checks.due("order over " + p, f.order(0), want);
        Checks.dueRow("order over " + p + ": a", f, 0, a);
    }

    private static void knownOrders() {
        dueOrder(7, 2, 1, 1, 0, 1);
        dueOrder(1, 2, 1, 1);
        dueOrder(2, 2, 1, 0, 1);
        dueOrder(3, 2, 1, 1, 1);
        dueOrder(12, 13, 11, 1);
        dueOrder(12, 13, 9, 2);
        dueOrder(1, 13, 12, 1);
        dueOrder(2, 13, 1, 1);
        dueOrder(4, 3, 1, 0, 1);
        dueOrder(4, 3, 2, 0, 2);
        dueOrder(8, 3, 2, 1, 1);
        dueOrder(13, 13, 1, 11, 1);
        dueOrder(127, 2, 1, 1, 0, 0, 0, 0, 0, 1);
        dueOrder(65535, 2, 1, 0, 1, 1, 0, 1, 0, 0, 0, 0, 0, 0, 0, 0, 0, 0, 1);
    }

    /** x^n - 1 has the order n, x^n + 1 the order 2 n unless 1 is -1. */
    private static void ordersOfBinomials() {
        for (int p : Checks.FIELDS) {
            for (int n = 1; n <= 24; n++) {
                FieldFactors f = Checks.over(p);
                f.set(0, n, 1);
                f.set(0, 0, -1);
                Checks.due("order of x^" + n + " - 1 over " + p, f.order(0), n);
                f.set(0, 0, 1);
                Checks.due("order of x^" + n + " + 1 over " + p, f.order(0), p == 2 ? n : 2 * n);
            }
        }
    }

    private static void noOrder() {
        dueOrder(0, 2, 0, 1);
        dueOrder(0, 5, 0, 3);
        dueOrder(0, 5, 0, 1, 1);
        dueOrder(0, 13, 0, 0, 0, 0, 0, 0, 0, 0, 0, 0, 0, 0, 0, 0, 0, 0, 0, 0, 0, 0, 0, 0, 0, 0, 1);
    }

    /** By the orders of their irreducible factors; over these fields no order lies closer to 100,000. */
    private static void nearTheLimit() {
        int[] order641 = {1, 0, 11, 2, 5, 3, 9, 1, 2, 4, 0, 4, 2, 1, 9, 3, 5, 2, 11, 0, 1};
        int[] order49 = {1, 0, 0, 0, 0, 0, 0, 5, 0, 0, 0, 0, 0, 0, 1};
        int[] order157 = {1, 0, 7, 12, 7, 0, 1};
        int[] order12 = {11, 1};
        int[] order1 = {12, 1};
        dueOrder(641, 13, order641);
        dueOrder(49, 13, order49);
        dueOrder(157, 13, order157);
        dueOrderOfProduct(13, 12 * 641 * 13, order641, order12, order12);
        dueOrderOfProduct(13, 49 * 157, order49, order157);
        dueOrderOfProduct(13, 0, order49, order157, order1, order1);
        dueOrder(0, 2, 1, 0, 0, 1, 0, 0, 0, 0, 0, 0, 0, 0, 0, 0, 0, 0, 0, 1);
        dueOrder(0, 2, 1, 1, 1, 0, 0, 0, 0, 1, 0, 0, 0, 0, 0, 0, 0, 0, 0, 0, 0, 0, 0, 0, 1);
    }

    /** The largest order up to 100,000 and the least one above it that the degrees of each field allow. */
    private static void nearestOrdersOfEachField() {
        dueOrder(99864, 2, 1, 0, 1, 0, 1, 0, 1, 1, 1, 1, 0, 1, 1, 0, 1, 1, 0, 1, 0, 0, 0, 0, 1, 1);
        dueOrder(0, 2, 1, 0, 1, 0, 0, 0, 0, 1, 1, 0, 1, 0, 0, 1, 1, 0, 0, 0, 0, 0, 1);
        dueOrder(99924, 3, 1, 1, 2, 0, 2, 1, 1, 2, 0, 1, 2, 2, 0, 1, 2, 0, 2, 0, 1);
        dueOrder(0, 3, 2, 0, 1, 1, 1, 0, 1, 0, 1, 0, 0, 1, 2, 1, 1, 1, 0, 2, 1);
        dueOrder(99550, 5, 4, 4, 2, 1, 4, 1, 3, 2, 1, 1, 4, 2, 3, 1, 0, 2, 4, 3, 1, 3, 0, 1);
        dueOrder(0, 5, 1, 3, 3, 4, 2, 2, 2, 3, 4, 0, 3, 2, 1, 3, 1, 4, 3, 4, 2, 3, 1, 1);
        dueOrder(99960, 7, 4, 0, 6, 5, 6, 5, 3, 5, 5, 6, 6, 1, 0, 6, 2, 6, 5, 6, 5, 4, 5, 6, 1, 4, 1);
        dueOrder(0, 7, 1, 3, 1, 0, 0, 5, 1, 0, 1, 4, 3, 4, 2, 5, 0, 0, 2, 6, 0, 6, 3, 4, 2, 2, 1);
        dueOrder(99918, 11, 1, 5, 3, 6, 4, 8, 10, 5, 0, 2, 10, 8, 1);
        dueOrder(0, 11, 7, 8, 10, 3, 1, 10, 8, 2, 10, 5, 5, 2, 10, 0, 5, 3, 3, 1, 5, 1);
        dueOrder(99996, 13, 9, 5, 4, 0, 7, 5, 8, 1, 11, 12, 4, 12, 9, 6, 6, 5, 5, 0, 4, 7, 4, 0, 1);
        dueOrder(0, 13, 1, 4, 11, 6, 8, 6, 11, 9, 8, 3, 4, 1, 4, 3, 8, 9, 11, 6, 8, 6, 11, 4, 1);
    }

    /** Orders that are multiples of 500, where a search in larger steps could miss by one. */
    private static void roundOrders() {
        int[] order125 = {1, 0, 0, 0, 0, 2, 0, 0, 0, 0, 4, 0, 0, 0, 0, 2, 0, 0, 0, 0, 1};
        int[] order4 = {1, 0, 1};
        int[] order8 = {1, 3, 1};
        int[] order16 = {6, 1, 1};
        int[] order3 = {5, 1};
        dueOrder(125, 7, order125);
        dueOrderOfProduct(7, 500, order125, order4);
        dueOrderOfProduct(7, 1000, order125, order8);
        dueOrderOfProduct(7, 2000, order125, order16);
        dueOrderOfProduct(7, 1500, order125, order4, order3);
        dueOrderOfProduct(7, 42000, order125, order16, order3, order3);
    }

    private static void dueOrderOfProduct(int p, int want, int[]... factors) {
        FieldFactors f = Checks.over(p);
        Checks.fill(f, 0, 1);
        for (int i = 0; i < factors.length; i++) {
            Checks.fill(f, i + 1, factors[i]);
            f.join(0, 2, 0, i + 1);
        }
        Checks.due("order of a product over " + p, f.order(0), want);
    }

    private static void againstSingleSteps() {
        for (int p : Checks.FIELDS) {
            int digits = 1;
            for (int n = 1; n <= 150; n++) {
                digits = digits * 1_103_515_245 + 12345;
                int[] a = Checks.digits(digits >>> 4, p, 2 + n % 9);
                a[0] = 1 + n % (p - 1);
                a[a.length - 1] = 1 + n / 2 % (p - 1);
                FieldFactors f = Checks.over(p);
                PlainModel model = new PlainModel();
                model.field(p);
                Checks.fill(f, 0, a);
                model.fill(0, a);
                Checks.due("order over " + p + " of number " + n, f.order(0), model.order(0));
            }
        }
    }

    /** 0: x^2 - 1, 1: 1, 2: 5, 3: 0, over 7. */
    private static FieldFactors filled() {
        FieldFactors f = Checks.over(7);
        Checks.fill(f, 0, 6, 0, 1);
        Checks.fill(f, 1, 1);
        Checks.fill(f, 2, 5);
        f.factor(0);
        return f;
    }

    private static void refusals() {
        for (int r : Checks.NO_REGISTERS) {
            Checks.refuses(OrderTest::filled, "order of " + r, NoSuchElementException.class, f -> f.order(r));
        }
        Checks.refuses(OrderTest::filled, "order of 1", IllegalArgumentException.class, f -> f.order(1));
        Checks.refuses(OrderTest::filled, "order of 5", IllegalArgumentException.class, f -> f.order(2));
        Checks.refuses(OrderTest::filled, "order of 0", IllegalArgumentException.class, f -> f.order(3));
        Checks.changesNothing(OrderTest::filled, "order", f -> f.order(0));
    }
}
