import java.util.NoSuchElementException;
import java.util.function.Supplier;

/** Promises 1 (a new object), 2 (field), 3 (set), 4 (get) and 15 (count). */
public final class RegistersTest {
    public static void main(String[] args) {
        newObject();
        fieldAnswersTheOneBefore();
        fieldClearsAll();
        fieldReckonsAnew();
        fieldRefusals();
        setAndGet();
        setReckonsModuloP();
        setChangesTheDegree();
        setAndGetRefusals();
        count();
        objectsAreApart();
        Checks.end();
    }

    private static void newObject() {
        FieldFactors f = new FieldFactors();
        Checks.due("count(0) of a new object", f.count(0), 2);
        Checks.due("count(1) of a new object", f.count(1), 0);
        for (int r = 0; r < Checks.REGISTERS; r++) {
            Checks.dueRow("register " + r + " of a new object", f, r);
            Checks.due("the degree of register " + r, f.join(r, 0, r, r), -1);
        }
        f.set(3, 2, 3);
        Checks.due("3 in a new object", f.get(3, 2), 1);
        Checks.refuses(FieldFactors::new, "piece of a new object", NoSuchElementException.class, g -> g.piece(0, 0));
        for (int r = 0; r < Checks.REGISTERS; r++) {
            int each = r;
            Checks.refuses(FieldFactors::new, "factor of a new object", IllegalArgumentException.class, g -> g.factor(each));
            Checks.refuses(FieldFactors::new, "linear of a new object", IllegalArgumentException.class, g -> g.linear(0, each));
        }
    }

    private static void fieldAnswersTheOneBefore() {
        FieldFactors f = new FieldFactors();
        int before = 2;
        for (int p : new int[] {13, 2, 3, 3, 5, 7, 11, 13, 13, 2}) {
            Checks.due("field(" + p + ")", f.field(p), before);
            Checks.due("count(0) behind field(" + p + ")", f.count(0), p);
            Checks.due("set to p", f.set(0, 0, p), 0);
            Checks.due("p is 0", f.get(0, 0), 0);
            f.set(0, 0, p - 1);
            Checks.due("p - 1 stays", f.get(0, 0), p - 1);
            before = p;
        }
    }

    private static void fieldClearsAll() {
        for (int p : new int[] {3, 5}) {
            FieldFactors f = Checks.over(3);
            for (int r = 0; r < Checks.REGISTERS; r++) {
                Checks.fill(f, r, 1, 0, 2, r % 3);
            }
            f.set(9, 24, 2);
            Checks.fill(f, 0, 2, 0, 1, 0);
            Checks.due("factor", f.factor(0), 2);
            Checks.due("field", f.field(p), 3);
            Checks.due("no factors behind field", f.count(1), 0);
            for (int r = 0; r < Checks.REGISTERS; r++) {
                Checks.dueRow("register " + r + " behind field", f, r);
            }
        }
        Supplier<FieldFactors> start = () -> {
            FieldFactors f = Checks.over(3);
            Checks.fill(f, 0, 2, 0, 1);
            f.factor(0);
            f.field(3);
            return f;
        };
        Checks.refuses(start, "piece behind field", NoSuchElementException.class, f -> f.piece(1, 0));
        Checks.refuses(start, "order behind field", IllegalArgumentException.class, f -> f.order(0));
        Checks.refuses(start, "factor behind field", IllegalArgumentException.class, f -> f.factor(0));
        Checks.due("the degree behind field", start.get().join(1, 0, 0, 2), -1);
        FieldFactors f = start.get();
        f.set(0, 1, 1);
        Checks.due("the degree behind field and set", f.join(1, 0, 0, 2), 1);
    }

    /** From each field to each one: every number is brought to 1 by the new field's reckoning. */
    private static void fieldReckonsAnew() {
        for (int from : Checks.FIELDS) {
            for (int p : Checks.FIELDS) {
                FieldFactors f = Checks.over(from);
                Checks.due("field", f.field(p), from);
                for (int lead = 1; lead < p; lead++) {
                    f.set(0, 0, lead * 2);
                    f.set(0, 1, lead);
                    Checks.due("made monic", f.join(1, 6, 0, 0), 1);
                    Checks.due("its x", f.get(1, 1), 1);
                    Checks.due("its number", f.get(1, 0), 2 % p);
                }
            }
        }
    }

    private static FieldFactors filled() {
        FieldFactors f = Checks.over(7);
        Checks.fill(f, 0, 1, 2, 3);
        Checks.fill(f, 15, 6, 0, 1);
        f.factor(15);
        return f;
    }

    private static void fieldRefusals() {
        for (int p : new int[] {0, 1, -1, -2, -7, 4, 6, 8, 9, 10, 12, 14, 15, 17, 19, 26, Integer.MAX_VALUE, Integer.MIN_VALUE}) {
            Checks.refuses(RegistersTest::filled, "field(" + p + ")", IllegalArgumentException.class, f -> f.field(p));
        }
    }

    private static void setAndGet() {
        for (int part = 0; part < Checks.REGISTERS; part++) {
            FieldFactors f = Checks.over(13);
            for (int r = 0; r < Checks.REGISTERS; r++) {
                for (int i = 0; i <= Checks.TOP_DEGREE; i++) {
                    Checks.due("set answers what it was", f.set(r, i, r * 5 + i + 1), 0);
                }
            }
            for (int i = 0; i <= Checks.TOP_DEGREE; i++) {
                int was = (part * 5 + i + 1) % 13;
                Checks.due("get(" + part + ", " + i + ")", f.get(part, i), was);
                Checks.due("set again", f.set(part, i, 4), was);
                Checks.due("get again", f.get(part, i), 4);
            }
        }
    }

    private static void setReckonsModuloP() {
        for (int p : Checks.FIELDS) {
            FieldFactors f = Checks.over(p);
            for (int v : new int[] {-1, -p, -p - 1, p, p + 1, 1000, -1000, Integer.MAX_VALUE, Integer.MIN_VALUE}) {
                f.set(4, 3, v);
                Checks.due(v + " modulo " + p, f.get(4, 3), (int) (((long) v % p + p) % p));
            }
        }
    }

    private static void setChangesTheDegree() {
        FieldFactors f = Checks.over(5);
        f.set(0, 2, 1);
        f.set(0, 24, 3);
        Checks.due("the degree with x^24", f.join(1, 0, 0, 2), 24);
        f.set(0, 24, 5);
        Checks.due("the degree without x^24", f.join(1, 0, 0, 2), 2);
        f.set(0, 2, 0);
        Checks.due("the degree of 0", f.join(1, 0, 0, 2), -1);
    }

    private static void setAndGetRefusals() {
        Supplier<FieldFactors> start = RegistersTest::filled;
        for (int r : Checks.NO_REGISTERS) {
            Checks.refuses(start, "set(" + r + ")", NoSuchElementException.class, f -> f.set(r, 0, 1));
            Checks.refuses(start, "get(" + r + ")", NoSuchElementException.class, f -> f.get(r, 0));
            Checks.refuses(start, "set(" + r + ", 25)", NoSuchElementException.class, f -> f.set(r, 25, 1));
            Checks.refuses(start, "get(" + r + ", 25)", NoSuchElementException.class, f -> f.get(r, 25));
        }
        for (int i : new int[] {-1, 25, 26, Integer.MAX_VALUE, Integer.MIN_VALUE}) {
            Checks.refuses(start, "set(0, " + i + ")", IllegalArgumentException.class, f -> f.set(0, i, 1));
            Checks.refuses(start, "get(0, " + i + ")", IllegalArgumentException.class, f -> f.get(0, i));
        }
        Checks.changesNothing(start, "get", f -> f.get(0, 1));
    }

    private static void count() {
        FieldFactors f = Checks.over(11);
        Checks.fill(f, 0, 10, 0, 1);
        f.factor(0);
        Checks.due("count(0)", f.count(0), 11);
        Checks.due("count(1)", f.count(1), 2);
        for (int what : new int[] {2, 3, -1, 15, Integer.MAX_VALUE, Integer.MIN_VALUE}) {
            Checks.due("count(" + what + ")", f.count(what), -1);
            Checks.changesNothing(RegistersTest::filled, "count(" + what + ")", g -> g.count(what));
        }
    }

    private static void objectsAreApart() {
        FieldFactors f = Checks.over(7);
        FieldFactors other = new FieldFactors();
        Checks.fill(f, 0, 6, 0, 1);
        f.factor(0);
        Checks.due("the other's field", other.count(0), 2);
        Checks.due("the other's factors", other.count(1), 0);
        Checks.dueRow("the other's register", other, 0);
        other.field(3);
        Checks.dueRow("the first one's register", f, 0, 6, 0, 1);
        Checks.due("the first one's factors", f.count(1), 2);
    }
}
