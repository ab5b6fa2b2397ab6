import java.util.Random;
import java.util.function.ToLongFunction;

/**
 * Runs of calls, the same ones each time, compared with the plain model: the answers call by call,
 * the registers and the list at the end, so that an object is used for at most 512 calls.
 */
public final class RandomRunsTest {
    private static final int RUNS = 1800;
    private static final int MOST_CALLS = 100;
    private static final int LONG_RUN_CALLS = 512;

    private final Random random;
    private final FieldFactors tested = new FieldFactors();
    private final PlainModel model = new PlainModel();
    private final String name;

    private RandomRunsTest(int run) {
        random = new Random(20261115L + run);
        name = "run " + run;
    }

    public static void main(String[] args) {
        for (int run = 0; run < RUNS; run++) {
            new RandomRunsTest(run).play(run);
        }
        Checks.end();
    }

    private void play(int run) {
        int p = Checks.FIELDS[run % Checks.FIELDS.length];
        both("field(" + p + ")", f -> f.field(p), m -> m.field(p));
        boolean longRun = run % 20 == 0;
        int calls = longRun ? LONG_RUN_CALLS - 1 : 20 + random.nextInt(MOST_CALLS - 20);
        for (int i = 0; i < calls; i++) {
            call();
        }
        if (!longRun) {
            compareState();
        }
    }

    private void compareState() {
        for (int r = 0; r < Checks.REGISTERS; r++) {
            Checks.dueRow(name + ": register " + r, tested, r, model.row(r));
        }
        both("count(0)", f -> f.count(0), m -> m.count(0));
        both("count(1)", f -> f.count(1), m -> m.count(1));
    }

    private void call() {
        int kind = random.nextInt(100);
        if (kind < 30) {
            callSet();
        } else if (kind < 60) {
            callJoin();
        } else if (kind < 75) {
            callModulo();
        } else {
            callOther();
        }
    }

    private void callSet() {
        int r = register();
        int i = random.nextInt(15) == 0 ? pick(-1, 25, 24, Integer.MAX_VALUE, Integer.MIN_VALUE) : random.nextInt(9);
        int v = random.nextInt(10) == 0 ? random.nextInt() : random.nextInt(29) - 9;
        if (random.nextInt(8) == 0) {
            both("get(" + r + ", " + i + ")", f -> f.get(r, i), m -> m.get(r, i));
        } else {
            both("set(" + r + ", " + i + ", " + v + ")", f -> f.set(r, i, v), m -> m.set(r, i, v));
        }
    }

    private void callJoin() {
        int to = register();
        int op = random.nextInt(40) == 0 ? pick(-1, 8, Integer.MIN_VALUE) : random.nextInt(3) == 0 ? 2 : random.nextInt(8);
        int a = register();
        int b = register();
        both("join(" + to + ", " + op + ", " + a + ", " + b + ")", f -> f.join(to, op, a, b), m -> m.join(to, op, a, b));
    }

    private void callModulo() {
        int to = register();
        int a = register();
        int by = register();
        int n = random.nextInt(4) == 0 ? random.nextInt() : random.nextInt(9) - 1;
        if (random.nextInt(3) == 0) {
            both("power(" + to + ", " + a + ", " + n + ", " + by + ")",
                    f -> f.power(to, a, n, by), m -> m.power(to, a, n, by));
        } else {
            both("inverse(" + to + ", " + a + ", " + by + ")", f -> f.inverse(to, a, by), m -> m.inverse(to, a, by));
        }
    }

    private void callOther() {
        int to = register();
        int a = register();
        int v = random.nextBoolean() ? random.nextInt() : random.nextInt(7) - 1;
        switch (random.nextInt(16)) {
            case 0: both("value(" + a + ", " + v + ")", f -> f.value(a, v), m -> m.value(a, v)); break;
            case 1: both("zeros(" + a + ")", f -> f.zeros(a), m -> m.zeros(a)); break;
            case 2:
            case 3: both("linear(" + to + ", " + a + ")", f -> f.linear(to, a), m -> m.linear(to, a)); break;
            case 4:
            case 5: both("irreducible(" + a + ")", f -> f.irreducible(a) ? 1 : 0, m -> m.irreducible(a) ? 1 : 0); break;
            case 6: both("order(" + a + ")", f -> f.order(a), m -> m.order(a)); break;
            case 7: both("count(" + v + ")", f -> f.count(v), m -> m.count(v)); break;
            case 8:
            case 9:
            case 10:
            case 11: both("factor(" + a + ")", f -> f.factor(a), m -> m.factor(a)); break;
            case 12: callField(); break;
            default: int i = random.nextInt(6) - 1;
                both("piece(" + to + ", " + i + ")", f -> f.piece(to, i), m -> m.piece(to, i)); break;
        }
    }

    private void callField() {
        int p = random.nextInt(4) == 0 ? pick(2, 3, 5, 7, 11, 13) : pick(0, 1, 4, 17, -2, 6, 9);
        both("field(" + p + ")", f -> f.field(p), m -> m.field(p));
    }

    /** Few registers are used, so that they fill and meet each other. */
    private int register() {
        return random.nextInt(60) == 0 ? pick(Checks.NO_REGISTERS) : random.nextInt(10) == 0 ? random.nextInt(16) : random.nextInt(5);
    }

    private int pick(int... among) {
        return among[random.nextInt(among.length)];
    }

    private void both(String call, ToLongFunction<FieldFactors> got, ToLongFunction<PlainModel> want) {
        Checks.due(name + ", " + call, outcome(got, tested), outcome(want, model));
    }

    private static <T> String outcome(ToLongFunction<T> call, T on) {
        try {
            return Long.toString(call.applyAsLong(on));
        } catch (RuntimeException e) {
            return e.getClass().getSimpleName();
        }
    }
}
