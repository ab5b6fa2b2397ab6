import java.util.Arrays;
import java.util.function.Consumer;
import java.util.function.Supplier;

/**
 * What the tests share: comparing answers, refusals and rows, and ending with the right exit code.
 * As nothing is promised behind the 512th call, every test makes a new object often.
 */
final class Checks {
    static final int REGISTERS = 16;
    static final int TOP_DEGREE = 24;
    static final int[] FIELDS = {2, 3, 5, 7, 11, 13};
    static final int[] NO_REGISTERS = {-1, 16, Integer.MIN_VALUE, Integer.MAX_VALUE};
    private static int wrong = 0;

    private Checks() {
    }

    static void due(String what, long got, long want) {
        if (got != want) {
            complain(what + " answered " + got + ", due is " + want);
        }
    }

    static void due(String what, boolean got, boolean want) {
        due(what, got ? 1 : 0, want ? 1 : 0);
    }

    static void due(String what, String got, String want) {
        if (!got.equals(want)) {
            complain(what + " is " + got + ", due is " + want);
        }
    }

    private static void complain(String text) {
        wrong++;
        System.out.println(text);
    }

    /** The call throws exactly this exception and leaves the object as it was. */
    static void refuses(Supplier<FieldFactors> start, String what, Class<? extends RuntimeException> want,
            Consumer<FieldFactors> call) {
        FieldFactors f = start.get();
        String got = "nothing";
        try {
            call.accept(f);
        } catch (RuntimeException e) {
            got = e.getClass().getSimpleName();
        }
        due(what + ": what it throws", got, want.getSimpleName());
        due(what + ": the state behind it", state(f), state(start.get()));
    }

    static void changesNothing(Supplier<FieldFactors> start, String what, Consumer<FieldFactors> call) {
        FieldFactors f = start.get();
        call.accept(f);
        due(what + ": the state behind it", state(f), state(start.get()));
    }

    /** A new object over this field. */
    static FieldFactors over(int p) {
        FieldFactors f = new FieldFactors();
        f.field(p);
        return f;
    }

    /** Sets these coefficients, from x^0 on, and no others. */
    static void fill(FieldFactors f, int r, int... coefficients) {
        for (int i = 0; i < coefficients.length; i++) {
            f.set(r, i, coefficients[i]);
        }
    }

    /** Makes every coefficient 1, so that a target shows what is left of it. */
    static void fillWithOnes(FieldFactors f, int r) {
        for (int i = 0; i <= TOP_DEGREE; i++) {
            f.set(r, i, 1);
        }
    }

    /** The digits of the number in base p, the last one as the coefficient of x^0. */
    static int[] digits(int number, int p, int length) {
        int[] digits = new int[length];
        int left = number;
        for (int i = 0; i < length; i++) {
            digits[i] = left % p;
            left /= p;
        }
        return digits;
    }

    static int[] row(FieldFactors f, int r) {
        int[] row = new int[TOP_DEGREE + 1];
        for (int i = 0; i <= TOP_DEGREE; i++) {
            row[i] = f.get(r, i);
        }
        return row;
    }

    static void dueRow(String what, FieldFactors f, int r, int... coefficients) {
        due(what, Arrays.toString(row(f, r)), Arrays.toString(Arrays.copyOf(coefficients, TOP_DEGREE + 1)));
    }

    /**
     * All that calls can tell of an object: field, registers and list of factors. With at most
     * three factors this takes 480 calls, and the object is spoilt by it.
     */
    private static String state(FieldFactors f) {
        StringBuilder text = new StringBuilder("p ").append(f.count(0));
        for (int r = 0; r < REGISTERS; r++) {
            text.append(' ').append(Arrays.toString(row(f, r)));
        }
        int many = f.count(1);
        text.append(" factors ").append(many);
        for (int i = 0; i < many; i++) {
            text.append(' ').append(f.piece(0, i)).append(" x ").append(Arrays.toString(row(f, 0)));
        }
        return text.toString();
    }

    static void end() {
        System.out.println(wrong == 0 ? "all answers are as due" : wrong + " answers are not as due");
        if (wrong != 0) {
            System.exit(1);
        }
    }
}
