import java.util.NoSuchElementException;

/**
 * Sixteen registers of polynomials over a field of few numbers, and the list of the irreducible
 * factors that was cut last. All rows are made once, with the object, and used again by every call.
 */
public final class FieldFactors {
    private static final int[] FIELDS = {2, 3, 5, 7, 11, 13};
    private static final int[] CUT_DEGREES = {24, 18, 12, 10, 8, 8};
    private static final int LARGEST_FIELD = 13;
    private static final int REGISTER_COUNT = 16;
    private static final int TOP_DEGREE = 24;
    private static final int WIDTH = TOP_DEGREE + 1;
    /** Room for the p-th power of a polynomial that is reduced modulo one of the top degree. */
    private static final int WIDE_WIDTH = (TOP_DEGREE - 1) * LARGEST_FIELD + 1;

    private static final int ADD = 0;
    private static final int SUBTRACT = 1;
    private static final int MULTIPLY = 2;
    private static final int QUOTIENT = 3;
    private static final int REST = 4;
    private static final int COMMON_DIVISOR = 5;
    private static final int MONIC = 6;
    private static final int DERIVATIVE = 7;

    private final Arithmetic numbers;
    private final Cutter cutter;
    private final OrderSearch orderSearch;
    private final Polynomial[] registers;
    /** Answers are built here, as the register that takes one may be among the operands. */
    private final Polynomial result;
    private final Polynomial scratch;

    public FieldFactors() {
        numbers = new Arithmetic();
        cutter = new Cutter(numbers);
        orderSearch = new OrderSearch(numbers);
        registers = new Polynomial[REGISTER_COUNT];
        for (int r = 0; r < REGISTER_COUNT; r++) {
            registers[r] = new Polynomial(WIDTH);
        }
        result = new Polynomial(WIDTH);
        scratch = new Polynomial(WIDTH);
    }

    public int field(int p) throws IllegalArgumentException {
        if (fieldIndex(p) < 0) {
            throw new IllegalArgumentException("no such field");
        }
        int was = numbers.p;
        numbers.become(p);
        for (int r = 0; r < REGISTER_COUNT; r++) {
            registers[r].clear();
        }
        cutter.forget();
        return was;
    }

    public int set(int r, int i, int v) throws NoSuchElementException, IllegalArgumentException {
        Polynomial register = register(r);
        needExponent(i);
        int was = register.coefficients[i];
        register.put(i, Math.floorMod(v, numbers.p));
        return was;
    }

    public int get(int r, int i) throws NoSuchElementException, IllegalArgumentException {
        Polynomial register = register(r);
        needExponent(i);
        return register.coefficients[i];
    }

    public int join(int to, int op, int a, int b)
            throws NoSuchElementException, IllegalArgumentException, ArithmeticException {
        Polynomial target = register(to);
        Polynomial left = register(a);
        Polynomial right = register(b);
        if (op < ADD || op > DERIVATIVE) {
            throw new IllegalArgumentException("no such operation");
        }
        if ((op == QUOTIENT || op == REST) && right.degree < 0) {
            throw new IllegalArgumentException("division by 0");
        }
        // A factor 0 brings the sum of the degrees down, so that it needs no look of its own.
        if (op == MULTIPLY && left.degree + right.degree > TOP_DEGREE) {
            throw new ArithmeticException("the degree is too high");
        }
        combine(op, left, right);
        return store(target);
    }

    public int power(int to, int a, int n, int m) throws NoSuchElementException, IllegalArgumentException {
        Polynomial target = register(to);
        Polynomial base = register(a);
        Polynomial modulus = register(m);
        if (n < 0) {
            throw new IllegalArgumentException("the exponent is below 0");
        }
        needDegree(modulus);
        numbers.raise(result, base, n, modulus);
        return store(target);
    }

    public int inverse(int to, int a, int m)
            throws NoSuchElementException, IllegalArgumentException, IllegalStateException {
        Polynomial target = register(to);
        Polynomial inverted = register(a);
        Polynomial modulus = register(m);
        needDegree(modulus);
        if (!numbers.invert(result, inverted, modulus)) {
            throw new IllegalStateException("there is no inverse");
        }
        return store(target);
    }

    public int value(int a, int v) throws NoSuchElementException {
        return numbers.evaluate(register(a), Math.floorMod(v, numbers.p));
    }

    public int zeros(int a) throws NoSuchElementException {
        Polynomial looked = register(a);
        int found = 0;
        for (int v = 0; v < numbers.p; v++) {
            if (numbers.evaluate(looked, v) == 0) {
                found++;
            }
        }
        return found;
    }

    public int factor(int a) throws NoSuchElementException, IllegalArgumentException {
        Polynomial whole = register(a);
        needNotZero(whole);
        if (whole.degree > highestCutDegree()) {
            throw new IllegalArgumentException("the degree is too high to be cut");
        }
        cutter.cut(whole);
        return cutter.size;
    }

    public int piece(int to, int i) throws NoSuchElementException {
        Polynomial target = register(to);
        if (i < 0 || i >= cutter.size) {
            throw new NoSuchElementException("no such factor");
        }
        target.copyFrom(cutter.factors[i]);
        return cutter.times[i];
    }

    public boolean irreducible(int a) throws NoSuchElementException {
        return cutter.cannotBeCut(register(a));
    }

    public int order(int a) throws NoSuchElementException, IllegalArgumentException {
        Polynomial modulus = register(a);
        needDegree(modulus);
        return orderSearch.search(modulus);
    }

    public int linear(int to, int a) throws NoSuchElementException, IllegalArgumentException {
        Polynomial target = register(to);
        Polynomial whole = register(a);
        needNotZero(whole);
        scratch.copyFrom(whole);
        cutter.collectLinear(result, scratch);
        return store(target);
    }

    public int count(int what) {
        if (what == 0) {
            return numbers.p;
        }
        return what == 1 ? cutter.size : -1;
    }

    private Polynomial register(int r) {
        if (r < 0 || r >= REGISTER_COUNT) {
            throw new NoSuchElementException("no such register");
        }
        return registers[r];
    }

    private static void needExponent(int i) {
        if (i < 0 || i > TOP_DEGREE) {
            throw new IllegalArgumentException("no such coefficient");
        }
    }

    private static void needDegree(Polynomial modulus) {
        if (modulus.degree <= 0) {
            throw new IllegalArgumentException("the modulus has no degree above 0");
        }
    }

    private static void needNotZero(Polynomial a) {
        if (a.degree < 0) {
            throw new IllegalArgumentException("the polynomial is 0");
        }
    }

    private static int fieldIndex(int p) {
        for (int i = 0; i < FIELDS.length; i++) {
            if (FIELDS[i] == p) {
                return i;
            }
        }
        return -1;
    }

    private int highestCutDegree() {
        int index = fieldIndex(numbers.p);
        return index < 0 ? 0 : CUT_DEGREES[index];
    }

    private void combine(int op, Polynomial left, Polynomial right) {
        switch (op) {
            case ADD:
                result.copyFrom(left);
                numbers.addShifted(result, 1, 0, right);
                break;
            case SUBTRACT:
                result.copyFrom(left);
                numbers.addShifted(result, numbers.p - 1, 0, right);
                break;
            case MULTIPLY:
                result.clear();
                numbers.addProduct(result, 1, left, right);
                break;
            case QUOTIENT:
                scratch.copyFrom(left);
                numbers.divide(scratch, right, result);
                break;
            case REST:
                result.copyFrom(left);
                numbers.divide(result, right, numbers.ignored);
                break;
            case COMMON_DIVISOR:
                numbers.findCommonDivisor(result, left, right);
                break;
            case MONIC:
                result.copyFrom(left);
                numbers.makeMonic(result);
                break;
            default:
                numbers.derive(result, left);
                break;
        }
    }

    private int store(Polynomial target) {
        target.copyFrom(result);
        return result.degree;
    }

    /** A row of coefficients, 0 above the degree; the degree of the polynomial 0 is -1. */
    private static final class Polynomial {
        final int[] coefficients;
        int degree;

        Polynomial(int width) {
            coefficients = new int[width];
            degree = -1;
        }

        void clear() {
            for (int i = 0; i <= degree; i++) {
                coefficients[i] = 0;
            }
            degree = -1;
        }

        void copyFrom(Polynomial other) {
            for (int i = other.degree + 1; i <= degree; i++) {
                coefficients[i] = 0;
            }
            for (int i = 0; i <= other.degree; i++) {
                coefficients[i] = other.coefficients[i];
            }
            degree = other.degree;
        }

        void put(int i, int v) {
            coefficients[i] = v;
            degree = Math.max(degree, i);
            while (degree >= 0 && coefficients[degree] == 0) {
                degree--;
            }
        }

        void becomePowerOfX(int exponent) {
            clear();
            coefficients[exponent] = 1;
            degree = exponent;
        }

        int lead() {
            return degree < 0 ? 0 : coefficients[degree];
        }

        boolean isOne() {
            return degree == 0 && coefficients[0] == 1;
        }

        boolean comesBefore(Polynomial other) {
            if (degree != other.degree) {
                return degree < other.degree;
            }
            for (int i = degree; i >= 0; i--) {
                if (coefficients[i] != other.coefficients[i]) {
                    return coefficients[i] < other.coefficients[i];
                }
            }
            return false;
        }
    }

    /** Reckoning with polynomials modulo p. Where nothing else is said, a target is none of the operands. */
    private static final class Arithmetic {
        int p;
        /** Takes the quotient of a division of which only the rest is wanted. */
        final Polynomial ignored;
        private final int[] inverses;
        private final Polynomial wide;
        private final Polynomial first;
        private final Polynomial second;
        private final Polynomial third;
        private final Polynomial fourth;
        private final Polynomial quotient;

        Arithmetic() {
            inverses = new int[LARGEST_FIELD];
            ignored = new Polynomial(WIDE_WIDTH);
            wide = new Polynomial(WIDE_WIDTH);
            first = new Polynomial(WIDTH);
            second = new Polynomial(WIDTH);
            third = new Polynomial(WIDTH);
            fourth = new Polynomial(WIDTH);
            quotient = new Polynomial(WIDTH);
            become(FIELDS[0]);
        }

        void become(int newP) {
            p = newP;
            for (int v = 1; v < p; v++) {
                for (int w = 1; w < p; w++) {
                    if (v * w % p == 1) {
                        inverses[v] = w;
                    }
                }
            }
        }

        /** Adds factor times x^shift times added: the one step that sums, products and divisions are made of. */
        void addShifted(Polynomial sum, int factor, int shift, Polynomial added) {
            if (added.degree < 0) {
                return;
            }
            for (int i = 0; i <= added.degree; i++) {
                int at = i + shift;
                sum.coefficients[at] = (sum.coefficients[at] + factor * added.coefficients[i]) % p;
            }
            int degree = Math.max(sum.degree, added.degree + shift);
            while (degree >= 0 && sum.coefficients[degree] == 0) {
                degree--;
            }
            sum.degree = degree;
        }

        void addProduct(Polynomial sum, int factor, Polynomial a, Polynomial b) {
            for (int i = 0; i <= a.degree; i++) {
                if (a.coefficients[i] != 0) {
                    addShifted(sum, factor * a.coefficients[i], i, b);
                }
            }
        }

        void scale(Polynomial a, int factor) {
            for (int i = 0; i <= a.degree; i++) {
                a.coefficients[i] = a.coefficients[i] * factor % p;
            }
        }

        void makeMonic(Polynomial a) {
            if (a.degree >= 0) {
                scale(a, inverses[a.lead()]);
            }
        }

        void derive(Polynomial target, Polynomial a) {
            target.clear();
            for (int i = 1; i <= a.degree; i++) {
                target.put(i - 1, i * a.coefficients[i] % p);
            }
        }

        int evaluate(Polynomial a, int v) {
            int sum = 0;
            for (int i = a.degree; i >= 0; i--) {
                sum = (sum * v + a.coefficients[i]) % p;
            }
            return sum;
        }

        /** Leaves the rest in the row that is divided; nothing is divided by 0. */
        void divide(Polynomial divided, Polynomial by, Polynomial quotientRow) {
            quotientRow.clear();
            if (by.degree < 0) {
                return;
            }
            int inverseLead = inverses[by.lead()];
            for (int shift = divided.degree - by.degree; shift >= 0; shift--) {
                int digit = divided.coefficients[shift + by.degree] * inverseLead % p;
                if (digit != 0) {
                    quotientRow.put(shift, digit);
                    addShifted(divided, p - digit, shift, by);
                }
            }
        }

        /** The target may be an operand. */
        void findCommonDivisor(Polynomial target, Polynomial a, Polynomial b) {
            Polynomial upper = first;
            Polynomial lower = second;
            upper.copyFrom(a);
            lower.copyFrom(b);
            for (int step = 0; step <= WIDTH && lower.degree >= 0; step++) {
                divide(upper, lower, ignored);
                Polynomial rest = upper;
                upper = lower;
                lower = rest;
            }
            target.copyFrom(upper);
            makeMonic(target);
        }

        /** The target may be an operand, but not the modulus. */
        void multiply(Polynomial target, Polynomial a, Polynomial b, Polynomial modulus) {
            wide.clear();
            addProduct(wide, 1, a, b);
            divide(wide, modulus, ignored);
            target.copyFrom(wide);
        }

        /** As every number of the field is its own p-th power, a(x)^p is a(x^p). */
        void raiseToP(Polynomial a, Polynomial modulus) {
            wide.clear();
            for (int i = 0; i <= a.degree; i++) {
                if (a.coefficients[i] != 0) {
                    wide.put(i * p, a.coefficients[i]);
                }
            }
            divide(wide, modulus, ignored);
            a.copyFrom(wide);
        }

        void raise(Polynomial target, Polynomial a, int n, Polynomial modulus) {
            Polynomial square = first;
            square.copyFrom(a);
            target.becomePowerOfX(0);
            for (int left = n; left > 0; left >>= 1) {
                if ((left & 1) == 1) {
                    multiply(target, target, square, modulus);
                }
                multiply(square, square, square, modulus);
            }
        }

        /** Whether there is an inverse; the steps of Euclid, with what a was multiplied by for each rest. */
        boolean invert(Polynomial target, Polynomial a, Polynomial modulus) {
            Polynomial upper = first;
            Polynomial lower = second;
            Polynomial upperTimes = third;
            Polynomial lowerTimes = fourth;
            upper.copyFrom(modulus);
            lower.copyFrom(a);
            divide(lower, modulus, ignored);
            upperTimes.clear();
            lowerTimes.becomePowerOfX(0);
            for (int step = 0; step <= WIDTH && lower.degree > 0; step++) {
                divide(upper, lower, quotient);
                addProduct(upperTimes, p - 1, quotient, lowerTimes);
                Polynomial rest = upper;
                upper = lower;
                lower = rest;
                Polynomial restTimes = upperTimes;
                upperTimes = lowerTimes;
                lowerTimes = restTimes;
            }
            if (lower.degree < 0) {
                return false;
            }
            target.copyFrom(lowerTimes);
            scale(target, inverses[lower.lead()]);
            return true;
        }

        /** Divides by the piece as long as nothing is left over; how often that was. */
        int takeOut(Polynomial from, Polynomial piece) {
            for (int times = 0; times < TOP_DEGREE; times++) {
                first.copyFrom(from);
                divide(first, piece, quotient);
                if (first.degree >= 0) {
                    return times;
                }
                from.copyFrom(quotient);
            }
            return TOP_DEGREE;
        }
    }

    /** Cuts a polynomial into its irreducible factors, and keeps the list of them. */
    private static final class Cutter {
        final Polynomial[] factors;
        final int[] times;
        int size;
        private final Arithmetic numbers;
        private final Polynomial rest;
        private final Polynomial image;
        private final Polynomial group;
        private final Polynomial power;
        private final Polynomial trace;
        private final Polynomial common;
        private final Polynomial scratch;
        private final Polynomial one;
        private final Polynomial x;

        Cutter(Arithmetic numbers) {
            this.numbers = numbers;
            factors = new Polynomial[TOP_DEGREE];
            times = new int[TOP_DEGREE];
            for (int i = 0; i < TOP_DEGREE; i++) {
                factors[i] = new Polynomial(WIDTH);
            }
            size = 0;
            rest = new Polynomial(WIDTH);
            image = new Polynomial(WIDTH);
            group = new Polynomial(WIDTH);
            power = new Polynomial(WIDTH);
            trace = new Polynomial(WIDTH);
            common = new Polynomial(WIDTH);
            scratch = new Polynomial(WIDTH);
            one = new Polynomial(WIDTH);
            one.becomePowerOfX(0);
            x = new Polynomial(WIDTH);
            x.becomePowerOfX(1);
        }

        void forget() {
            size = 0;
        }

        /** Of what has no factor of at most half its degree, nothing can be cut. */
        boolean cannotBeCut(Polynomial a) {
            if (a.degree < 1) {
                return false;
            }
            image.copyFrom(x);
            for (int degree = 1; 2 * degree <= a.degree; degree++) {
                gatherNextDegree(a);
                if (group.degree > 0) {
                    return false;
                }
            }
            return true;
        }

        void cut(Polynomial a) {
            size = 0;
            rest.copyFrom(a);
            numbers.makeMonic(rest);
            image.copyFrom(x);
            for (int degree = 1; degree <= TOP_DEGREE && 2 * degree <= rest.degree; degree++) {
                gatherNextDegree(rest);
                if (group.degree > 0) {
                    int from = size;
                    split(degree);
                    takeOutFactors(from);
                }
            }
            if (rest.degree > 0) {
                append(rest, 1);
            }
            sort();
        }

        /** The product of x - v for each zero v, as often as that divides; what is left stays in the row. */
        void collectLinear(Polynomial target, Polynomial left) {
            target.becomePowerOfX(0);
            for (int v = 0; v < numbers.p; v++) {
                scratch.copyFrom(x);
                scratch.put(0, (numbers.p - v) % numbers.p);
                int often = numbers.takeOut(left, scratch);
                for (int i = 0; i < often; i++) {
                    common.copyFrom(target);
                    target.clear();
                    numbers.addProduct(target, 1, scratch, common);
                }
            }
        }

        /**
         * Goes from x^(p^(d-1)) to x^(p^d) modulo a: minus x, that is divided by exactly the
         * irreducible ones whose degree divides d, each once. The lower ones are gone by then.
         */
        private void gatherNextDegree(Polynomial a) {
            numbers.raiseToP(image, a);
            scratch.copyFrom(image);
            numbers.addShifted(scratch, numbers.p - 1, 0, x);
            numbers.findCommonDivisor(group, a, scratch);
        }

        /**
         * The group is a product of different factors of one degree. Modulo each of them a trace is
         * a number of the field, and the traces of all x^i together tell any two of them apart.
         */
        private void split(int degree) {
            int from = size;
            int due = from + group.degree / degree;
            append(group, 0);
            power.copyFrom(one);
            for (int i = 1; i < group.degree && size < due; i++) {
                numbers.multiply(power, x, power, group);
                findTrace(degree);
                splitByTrace(from, degree);
            }
        }

        private void findTrace(int degree) {
            scratch.copyFrom(power);
            trace.copyFrom(power);
            for (int i = 1; i < degree; i++) {
                numbers.raiseToP(scratch, group);
                numbers.addShifted(trace, 1, 0, scratch);
            }
        }

        private void splitByTrace(int from, int degree) {
            int before = size;
            for (int k = from; k < before; k++) {
                for (int v = 0; v < numbers.p && factors[k].degree > degree; v++) {
                    scratch.copyFrom(trace);
                    numbers.addShifted(scratch, numbers.p - v, 0, one);
                    numbers.findCommonDivisor(common, factors[k], scratch);
                    if (common.degree > 0 && common.degree < factors[k].degree) {
                        scratch.copyFrom(factors[k]);
                        numbers.divide(scratch, common, factors[k]);
                        append(common, 0);
                    }
                }
            }
        }

        private void append(Polynomial a, int often) {
            if (size < factors.length) {
                factors[size].copyFrom(a);
                times[size] = often;
                size++;
            }
        }

        private void takeOutFactors(int from) {
            for (int k = from; k < size; k++) {
                times[k] = numbers.takeOut(rest, factors[k]);
            }
        }

        private void sort() {
            for (int i = 1; i < size; i++) {
                for (int k = i; k > 0 && factors[k].comesBefore(factors[k - 1]); k--) {
                    swap(k, k - 1);
                }
            }
        }

        private void swap(int i, int k) {
            Polynomial factor = factors[i];
            factors[i] = factors[k];
            factors[k] = factor;
            int often = times[i];
            times[i] = times[k];
            times[k] = often;
        }
    }

    /**
     * The order by short and long steps: x^0, x^1, .. are kept, and x^(SHORT_STEPS i) meets one of
     * them, x^j, when SHORT_STEPS i - j is the order. The two counts cover 1 .. 100,000 exactly.
     */
    private static final class OrderSearch {
        private static final int SHORT_STEPS = 500;
        private static final int LONG_STEPS = 200;
        private static final int HALF = TOP_DEGREE / 2;

        private final Arithmetic numbers;
        /** Half a row read as a number in base p stays below 13^12, so that two longs tell it whole. */
        private final long[] lowCodes;
        private final long[] highCodes;
        private final Polynomial power;
        private final Polynomial stride;
        private final Polynomial x;

        OrderSearch(Arithmetic numbers) {
            this.numbers = numbers;
            lowCodes = new long[SHORT_STEPS];
            highCodes = new long[SHORT_STEPS];
            power = new Polynomial(WIDTH);
            stride = new Polynomial(WIDTH);
            x = new Polynomial(WIDTH);
            x.becomePowerOfX(1);
        }

        int search(Polynomial modulus) {
            // What x divides leaves x without an inverse, so no power of x is 1.
            if (modulus.coefficients[0] == 0) {
                return 0;
            }
            int found = takeShortSteps(modulus);
            return found > 0 ? found : takeLongSteps(modulus);
        }

        private int takeShortSteps(Polynomial modulus) {
            power.becomePowerOfX(0);
            for (int j = 0; j < SHORT_STEPS; j++) {
                if (j > 0 && power.isOne()) {
                    return j;
                }
                lowCodes[j] = code(0);
                highCodes[j] = code(HALF);
                numbers.multiply(power, x, power, modulus);
            }
            return 0;
        }

        private int takeLongSteps(Polynomial modulus) {
            stride.copyFrom(power);
            for (int i = 1; i <= LONG_STEPS; i++) {
                int j = findShortStep();
                if (j >= 0) {
                    return SHORT_STEPS * i - j;
                }
                numbers.multiply(power, stride, power, modulus);
            }
            return 0;
        }

        private int findShortStep() {
            long low = code(0);
            long high = code(HALF);
            for (int j = 0; j < SHORT_STEPS; j++) {
                if (lowCodes[j] == low && highCodes[j] == high) {
                    return j;
                }
            }
            return -1;
        }

        private long code(int from) {
            long code = 0;
            for (int i = from; i < from + HALF; i++) {
                code = code * numbers.p + power.coefficients[i];
            }
            return code;
        }
    }
}
