import java.util.ArrayList;
import java.util.List;
import java.util.NoSuchElementException;
import java.util.function.Consumer;
import java.util.function.ToIntBiFunction;

/**
 * The limits that 'What it is' and 'Terms' name for all calls: the registers, the highest degree,
 * the order in which exceptions are looked for, and the 512 calls of an object.
 */
public final class LimitsTest {
    private static final int LAST_CALL = 512;
    private static final List<Place> PLACES = new ArrayList<>();

    public static void main(String[] args) {
        listPlaces();
        everyPlaceTakesEveryRegister();
        everyPlaceRefusesWhatIsNoRegister();
        productsOfAllDegrees();
        degreeOfZero();
        firstNamedException();
        theLastCall();
        Checks.end();
    }

    /** A call with one of its registers left open, on the class and on the plain model. */
    private static final class Place {
        final String name;
        final ToIntBiFunction<FieldFactors, Integer> tested;
        final ToIntBiFunction<PlainModel, Integer> model;

        Place(String name, ToIntBiFunction<FieldFactors, Integer> tested, ToIntBiFunction<PlainModel, Integer> model) {
            this.name = name;
            this.tested = tested;
            this.model = model;
        }
    }

    private static void place(String name, ToIntBiFunction<FieldFactors, Integer> tested,
            ToIntBiFunction<PlainModel, Integer> model) {
        PLACES.add(new Place(name, tested, model));
    }

    private static void listPlaces() {
        place("set(r)", (f, r) -> f.set(r, 1, 5), (m, r) -> m.set(r, 1, 5));
        place("get(r)", (f, r) -> f.get(r, 1), (m, r) -> m.get(r, 1));
        for (int op = 0; op <= 7; op++) {
            int each = op;
            place("join " + op + " (to)", (f, r) -> f.join(r, each, 3, 4), (m, r) -> m.join(r, each, 3, 4));
            place("join " + op + " (a)", (f, r) -> f.join(3, each, r, 4), (m, r) -> m.join(3, each, r, 4));
            place("join " + op + " (b)", (f, r) -> f.join(3, each, 4, r), (m, r) -> m.join(3, each, 4, r));
        }
        place("power(to)", (f, r) -> f.power(r, 3, 5, 4), (m, r) -> m.power(r, 3, 5, 4));
        place("power(a)", (f, r) -> f.power(3, r, 5, 4), (m, r) -> m.power(3, r, 5, 4));
        place("power(m)", (f, r) -> f.power(3, 4, 5, r), (m, r) -> m.power(3, 4, 5, r));
        place("inverse(to)", (f, r) -> f.inverse(r, 3, 5), (m, r) -> m.inverse(r, 3, 5));
        place("inverse(a)", (f, r) -> f.inverse(3, r, 5), (m, r) -> m.inverse(3, r, 5));
        place("inverse(m)", (f, r) -> f.inverse(3, 5, r), (m, r) -> m.inverse(3, 5, r));
        place("value(a)", (f, r) -> f.value(r, 2), (m, r) -> m.value(r, 2));
        place("zeros(a)", (f, r) -> f.zeros(r), (m, r) -> m.zeros(r));
        place("factor(a)", (f, r) -> f.factor(r), (m, r) -> m.factor(r));
        place("piece(to)", (f, r) -> f.piece(r, 1), (m, r) -> m.piece(r, 1));
        place("irreducible(a)", (f, r) -> f.irreducible(r) ? 1 : 0, (m, r) -> m.irreducible(r) ? 1 : 0);
        place("order(a)", (f, r) -> f.order(r), (m, r) -> m.order(r));
        place("linear(to)", (f, r) -> f.linear(r, 3), (m, r) -> m.linear(r, 3));
        place("linear(a)", (f, r) -> f.linear(3, r), (m, r) -> m.linear(3, r));
    }

    /** Each register holds another polynomial of degree 2; the list has two factors. */
    private static int[] held(int r) {
        return new int[] {1 + r % 5, r / 5, 1 + (r + 1) % 6};
    }

    private static FieldFactors filled() {
        FieldFactors f = Checks.over(7);
        for (int r = 0; r < Checks.REGISTERS; r++) {
            Checks.fill(f, r, held(r));
        }
        Checks.due("factors at first", f.factor(3), 2);
        return f;
    }

    private static PlainModel filledModel() {
        PlainModel model = new PlainModel();
        model.field(7);
        for (int r = 0; r < Checks.REGISTERS; r++) {
            model.fill(r, held(r));
        }
        model.factor(3);
        return model;
    }

    private static <T> String outcome(ToIntBiFunction<T, Integer> call, T on, int r) {
        try {
            return Integer.toString(call.applyAsInt(on, r));
        } catch (RuntimeException e) {
            return e.getClass().getSimpleName();
        }
    }

    private static void everyPlaceTakesEveryRegister() {
        for (Place place : PLACES) {
            for (int r = 0; r < Checks.REGISTERS; r++) {
                String what = place.name + " with register " + r;
                FieldFactors f = filled();
                PlainModel model = filledModel();
                String want = outcome(place.model, model, r);
                Checks.due(what + " is a call that can be made", want.equals("NoSuchElementException"), false);
                Checks.due(what, outcome(place.tested, f, r), want);
                for (int k = 0; k < Checks.REGISTERS; k++) {
                    Checks.dueRow(what + ": register " + k, f, k, model.row(k));
                }
            }
        }
    }

    private static void everyPlaceRefusesWhatIsNoRegister() {
        for (Place place : PLACES) {
            for (int r : Checks.NO_REGISTERS) {
                Checks.refuses(LimitsTest::filled, place.name + " with register " + r, NoSuchElementException.class,
                        f -> place.tested.applyAsInt(f, r));
            }
        }
    }

    /** Each pair of degrees, the fields in turn: up to 24 the product is told, from 25 on it is refused. */
    private static void productsOfAllDegrees() {
        for (int a = 0; a <= Checks.TOP_DEGREE; a++) {
            for (int b = 0; b <= Checks.TOP_DEGREE; b++) {
                int p = Checks.FIELDS[(a * 5 + b) % Checks.FIELDS.length];
                if (a + b <= Checks.TOP_DEGREE) {
                    FieldFactors f = ofDegrees(p, a, b);
                    Checks.due("degree " + a + " times degree " + b, f.join(2, 2, 0, 1), a + b);
                    Checks.due("its lead", f.get(2, a + b), 1);
                    continue;
                }
                int degreeOfA = a;
                int degreeOfB = b;
                Checks.refuses(() -> ofDegrees(p, degreeOfA, degreeOfB), "degree " + a + " times degree " + b,
                        ArithmeticException.class, f -> f.join(2, 2, 0, 1));
            }
        }
    }

    private static FieldFactors ofDegrees(int p, int a, int b) {
        FieldFactors f = Checks.over(p);
        f.set(0, 0, 1);
        f.set(0, a, p - 1);
        f.set(1, 0, 1);
        f.set(1, b, p - 1);
        f.set(2, 3, 1);
        f.factor(2);
        return f;
    }

    private static void degreeOfZero() {
        for (int p : Checks.FIELDS) {
            for (int op : new int[] {0, 1, 2, 5, 6, 7}) {
                Checks.due("join " + op + " of 0 and 0 over " + p, Checks.over(p).join(2, op, 0, 1), -1);
            }
            FieldFactors f = Checks.over(p);
            f.set(1, 1, 1);
            Checks.due("0 by x over " + p, f.join(2, 3, 0, 1), -1);
            Checks.due("the rest of 0 by x over " + p, f.join(2, 4, 0, 1), -1);
            Checks.due("0^1 modulo x over " + p, f.power(2, 0, 1, 1), -1);
            f.set(0, 0, 1);
            Checks.due("1 over " + p, f.join(2, 0, 0, 3), 0);
        }
    }

    /** 0: 0, 1: x^13, 2: 3, over 7: whatever a call could throw, the one its heading names first is thrown. */
    private static FieldFactors withFaults() {
        FieldFactors f = Checks.over(7);
        f.set(3, 1, 1);
        f.factor(3);
        f.set(1, 13, 1);
        f.set(2, 0, 3);
        return f;
    }

    private static void firstNamedException() {
        dueFirst("set", NoSuchElementException.class, f -> f.set(16, 25, 1));
        dueFirst("get", NoSuchElementException.class, f -> f.get(-1, -1));
        dueFirst("join: a register before the op", NoSuchElementException.class, f -> f.join(0, 8, 1, 16));
        dueFirst("join: a register before by 0", NoSuchElementException.class, f -> f.join(-1, 3, 1, 0));
        dueFirst("join: a register before the degree", NoSuchElementException.class, f -> f.join(16, 2, 1, 1));
        dueFirst("join: the op before the degree", IllegalArgumentException.class, f -> f.join(4, -1, 1, 1));
        dueFirst("power: a register before n", NoSuchElementException.class, f -> f.power(0, 16, -1, 1));
        dueFirst("power: a register before m", NoSuchElementException.class, f -> f.power(-1, 1, 1, 2));
        dueFirst("inverse: a register before m", NoSuchElementException.class, f -> f.inverse(16, 1, 0));
        dueFirst("inverse: a register before none", NoSuchElementException.class, f -> f.inverse(16, 0, 1));
        dueFirst("inverse: m before none", IllegalArgumentException.class, f -> f.inverse(4, 0, 2));
        dueFirst("linear: a register before 0", NoSuchElementException.class, f -> f.linear(16, 0));
    }

    private static void dueFirst(String what, Class<? extends RuntimeException> want,
            Consumer<FieldFactors> call) {
        Checks.refuses(LimitsTest::withFaults, what, want, call);
    }

    /** field, 16 times 3 coefficients and factor come first; then one call again and again, up to the last. */
    private static void theLastCall() {
        int made = 2 + 3 * Checks.REGISTERS;
        for (Place place : PLACES) {
            FieldFactors f = filled();
            PlainModel model = filledModel();
            for (int call = made + 1; call <= LAST_CALL; call++) {
                int r = call % Checks.REGISTERS;
                String what = "call " + call + ": " + place.name + " with register " + r;
                Checks.due(what, outcome(place.tested, f, r), outcome(place.model, model, r));
            }
        }
        theLastOfManyLooks();
        theLastOfManyCuts();
    }

    private static void theLastOfManyLooks() {
        FieldFactors f = new FieldFactors();
        f.set(15, 24, 1);
        for (int call = 2; call <= LAST_CALL; call++) {
            Checks.due("call " + call, f.get(15, 24), 1);
        }
    }

    /** The dearest calls in turn, so that whatever they might use up is used up as far as it can be. */
    private static void theLastOfManyCuts() {
        FieldFactors f = Checks.over(13);
        Checks.fill(f, 0, 12, 0, 0, 0, 0, 0, 0, 0, 1);
        for (int call = 11; call < LAST_CALL; call += 3) {
            Checks.due("call " + call, f.factor(0), 6);
            Checks.due("call " + (call + 1), f.order(0), 8);
            Checks.due("call " + (call + 2), f.piece(1, 5), 1);
        }
        Checks.due("call 512", f.count(1), 6);
    }
}
