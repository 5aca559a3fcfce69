/**
 * A numeric coprocessor beside a processor's memory: a stack of eight reals with 64 bits of
 * significand, rounding by a control word, exceptions that are masked or not, and a busy time
 * during which what is stored is not there yet.
 */
public final class StackReal {
    private static final int INVALID = 1;
    private static final int DIVIDED = 2;
    private static final int OVERFLOW = 4;
    private static final int UNDERFLOW = 8;
    private static final int INEXACT = 16;
    private static final int ALL_EXCEPTIONS = 31;

    // Numbered as kind() answers them; the first three stand in the order of their magnitudes.
    private static final int ZERO = 0;
    private static final int FINITE = 1;
    private static final int INFINITE = 2;
    private static final int NAN = 3;
    private static final int NEGATIVE = 4;

    private static final int NEAREST = 0;
    private static final int DOWN = 1;
    private static final int UP = 2;
    private static final int TOWARDS_ZERO = 3;

    private static final int ADD = 0;
    private static final int SUB = 1;
    private static final int MUL = 2;
    private static final int DIV = 3;
    private static final int SQRT = 4;
    private static final int INTEGER = 5;
    private static final int SCALE = 6;
    private static final int EXTRACT = 7;
    private static final int ABSOLUTE = 8;
    private static final int NEGATE = 9;
    private static final int EXCHANGE = 10;
    private static final int COPY = 11;
    private static final int DROP = 12;
    private static final int COMPARE = 13;
    private static final int PUSH_ONE = 14;
    private static final int PUSH_ZERO = 15;

    /** How long each operation takes, and how many reals it needs (EXCHANGE and COPY: i + 1). */
    private static final int[] TICKS = {8, 8, 12, 20, 20, 6, 6, 6, 2, 2, 2, 2, 2, 2, 2, 2};
    private static final int[] NEEDED = {2, 2, 2, 2, 1, 1, 2, 1, 1, 1, 1, 1, 1, 2, 0, 0};
    private static final int LOAD_TICKS = 4;
    private static final int STORE_TICKS = 10;

    private static final int WHOLE = 0;
    private static final int DOUBLE = 1;
    private static final int SINGLE = 2;
    private static final int DECIMAL = 3;

    private static final int ROOM = 8;
    private static final int CELLS = 8;
    private static final int LONGEST_PASS = 1000;
    private static final int GREATEST_SCALE = 40000;
    private static final int LOWEST_EXPONENT = -16382;
    private static final int HIGHEST_EXPONENT = 16383;
    private static final int DECIMAL_DIGITS = 15;
    private static final long GREATEST_DECIMAL = 999999999999999L;
    private static final long TOP_BIT = 1L << 63;
    private static final long LOW_HALF = 0xFFFFFFFFL;

    private final Real[] stack;
    private final Real result;
    private final Real turned;
    private final Rounding rounding;
    private final Arithmetic arithmetic;
    private final Forms forms;
    private final Memory memory;
    private int depth;
    private int mask;
    private int flags;
    private int condition;

    public StackReal() {
        stack = new Real[ROOM];
        for (int n = 0; n < ROOM; n++) {
            stack[n] = new Real();
        }
        result = new Real();
        turned = new Real();
        Rounding shared = new Rounding();
        rounding = shared;
        arithmetic = new Arithmetic(shared);
        forms = new Forms(shared);
        memory = new Memory();
        depth = 0;
        mask = ALL_EXCEPTIONS;
        flags = 0;
        condition = 0;
    }

    public void control(int precision, int rounding, int mask) throws IllegalArgumentException {
        if (precision != 24 && precision != 53 && precision != 64) {
            throw new IllegalArgumentException("the precision is 24, 53 or 64");
        }
        if (rounding < NEAREST || rounding > TOWARDS_ZERO) {
            throw new IllegalArgumentException("the rounding is 0 to 3");
        }
        if (mask < 0 || mask > ALL_EXCEPTIONS) {
            throw new IllegalArgumentException("the mask is 0 to 31");
        }
        this.rounding.precision = precision;
        this.rounding.way = rounding;
        this.mask = mask;
    }

    public int operate(int operation, int i) throws IllegalArgumentException, ArithmeticException {
        if (operation < ADD || operation > PUSH_ZERO) {
            throw new IllegalArgumentException("there is no such operation");
        }
        if (namesPlace(operation) && (i < 0 || i >= ROOM)) {
            throw new IllegalArgumentException("i is 0 to 7");
        }
        memory.occupy(TICKS[operation]);
        if (!isPossible(operation, i)) {
            return raise(INVALID);
        }
        int raised = raise(workOut(operation));
        carryOut(operation, i);
        return raised;
    }

    public int load(int cell, int form) throws IllegalArgumentException, ArithmeticException {
        if (!isCell(cell) || !isForm(form)) {
            throw new IllegalArgumentException("there is no such cell or form");
        }
        memory.occupy(LOAD_TICKS);
        if (depth >= ROOM) {
            return raise(INVALID);
        }
        int raised = raise(forms.decode(memory.cells[cell], form, result));
        push(result);
        return raised;
    }

    public int store(int cell, int form) throws IllegalArgumentException, ArithmeticException {
        if (!isCell(cell) || !isForm(form)) {
            throw new IllegalArgumentException("there is no such cell or form");
        }
        memory.occupy(STORE_TICKS);
        if (depth <= 0) {
            return raise(INVALID);
        }
        int raised = raise(forms.encode(st(0), form));
        depth--;
        memory.storeWhenFree(cell, forms.image);
        return raised;
    }

    public void write(int cell, long value) throws IllegalArgumentException {
        if (!isCell(cell)) {
            throw new IllegalArgumentException("there is no such cell");
        }
        memory.cells[cell] = value;
    }

    public long memory(int cell) throws IllegalArgumentException {
        if (!isCell(cell)) {
            throw new IllegalArgumentException("there is no such cell");
        }
        return memory.cells[cell];
    }

    public void pass(int n) throws IllegalArgumentException {
        if (n < 0 || n > LONGEST_PASS) {
            throw new IllegalArgumentException("0 to 1000 ticks pass");
        }
        memory.goOn(n);
    }

    public int await() {
        return memory.waitUntilFree();
    }

    public long time() {
        return memory.now;
    }

    public int flags() {
        return flags;
    }

    public void clear() {
        flags = 0;
    }

    public int condition() {
        return condition;
    }

    public int depth() {
        return depth;
    }

    public int kind(int i) throws IllegalArgumentException {
        if (!isOnStack(i)) {
            throw new IllegalArgumentException("there is no such real");
        }
        Real real = st(i);
        return real.negative ? real.kind + NEGATIVE : real.kind;
    }

    public int exponent(int i) throws IllegalArgumentException {
        if (!isOnStack(i)) {
            throw new IllegalArgumentException("there is no such real");
        }
        return st(i).exponent;
    }

    public long significand(int i) throws IllegalArgumentException {
        if (!isOnStack(i)) {
            throw new IllegalArgumentException("there is no such real");
        }
        return st(i).significand;
    }

    private static boolean isCell(int cell) {
        return cell >= 0 && cell < CELLS;
    }

    private static boolean isForm(int form) {
        return form >= WHOLE && form <= DECIMAL;
    }

    private boolean isOnStack(int i) {
        return i >= 0 && i < depth;
    }

    /** Only for an i that is on the stack. */
    private Real st(int i) {
        return stack[depth - 1 - i];
    }

    /** Only where there is room. */
    private void push(Real real) {
        stack[depth].copy(real);
        depth++;
    }

    private int raise(int exceptions) {
        flags |= exceptions;
        if ((exceptions & ~mask) != 0) {
            throw new ArithmeticException("an exception that is not masked");
        }
        return exceptions;
    }

    private static boolean namesPlace(int operation) {
        return operation == EXCHANGE || operation == COPY;
    }

    private static boolean pushes(int operation) {
        return operation == EXTRACT || operation == COPY
                || operation == PUSH_ONE || operation == PUSH_ZERO;
    }

    private boolean isPossible(int operation, int i) {
        int needed = namesPlace(operation) ? i + 1 : NEEDED[operation];
        if (depth < needed || (pushes(operation) && depth >= ROOM)) {
            return false;
        }
        return operation != EXTRACT || st(0).kind == FINITE;
    }

    /**
     * Answers an operation's exceptions and leaves what it makes in result: nothing that can be
     * seen changes before it is known that the call does not throw.
     */
    private int workOut(int operation) {
        switch (operation) {
            case ADD:
                return arithmetic.add(st(1), st(0), result);
            case SUB:
                turned.copy(st(0));
                turned.negate();
                return arithmetic.add(st(1), turned, result);
            case MUL:
                return arithmetic.multiply(st(1), st(0), result);
            case DIV:
                return arithmetic.divide(st(1), st(0), result);
            case SQRT:
                return arithmetic.root(st(0), result);
            case INTEGER:
                return arithmetic.makeWhole(st(0), result);
            case SCALE:
                return arithmetic.scale(st(0), st(1), result);
            case COMPARE:
                return st(0).kind == NAN || st(1).kind == NAN ? INVALID : 0;
            default:
                return 0;
        }
    }

    private void carryOut(int operation, int i) {
        switch (operation) {
            case ADD:
            case SUB:
            case MUL:
            case DIV:
                depth--;
                st(0).copy(result);
                break;
            case SQRT:
            case INTEGER:
            case SCALE:
                st(0).copy(result);
                break;
            case EXTRACT:
                extract();
                break;
            case ABSOLUTE:
                st(0).negative = false;
                break;
            case NEGATE:
                st(0).negate();
                break;
            case EXCHANGE:
                exchange(i);
                break;
            case COPY:
                push(st(i));
                break;
            case DROP:
                depth--;
                break;
            case COMPARE:
                condition = conditionOf(st(0), st(1));
                break;
            case PUSH_ONE:
                result.becomeWhole(false, 1);
                push(result);
                break;
            default:
                result.becomeZero(false);
                push(result);
                break;
        }
    }

    private void extract() {
        Real x = st(0);
        int power = x.exponent;
        result.becomeFinite(x.negative, 0, x.significand);
        x.becomeWhole(power < 0, power < 0 ? -power : power);
        push(result);
    }

    private void exchange(int i) {
        int place = depth - 1 - i;
        Real other = stack[place];
        stack[place] = stack[depth - 1];
        stack[depth - 1] = other;
    }

    private static int conditionOf(Real x, Real y) {
        if (x.kind == NAN || y.kind == NAN) {
            return 3;
        }
        int order = compareReals(x, y);
        if (order == 0) {
            return 2;
        }
        return order > 0 ? 0 : 1;
    }

    private static int compareReals(Real x, Real y) {
        if (x.kind == ZERO && y.kind == ZERO) {
            return 0;
        }
        if (x.negative != y.negative) {
            return x.negative ? -1 : 1;
        }
        return x.negative ? compareMagnitudes(y, x) : compareMagnitudes(x, y);
    }

    private static int compareMagnitudes(Real a, Real b) {
        if (a.kind != b.kind) {
            return a.kind < b.kind ? -1 : 1;
        }
        if (a.exponent != b.exponent) {
            return a.exponent < b.exponent ? -1 : 1;
        }
        if (a.significand == b.significand) {
            return 0;
        }
        return isBelow(a.significand, b.significand) ? -1 : 1;
    }

    /** Compares two longs as numbers of 64 bits without a sign. */
    private static boolean isBelow(long a, long b) {
        return (a ^ TOP_BIT) < (b ^ TOP_BIT);
    }

    /** A real of the stack; one that is not finite has exponent and significand 0. */
    private static final class Real {
        int kind;
        boolean negative;
        int exponent;
        long significand;

        void copy(Real other) {
            kind = other.kind;
            negative = other.negative;
            exponent = other.exponent;
            significand = other.significand;
        }

        void becomeNan() {
            kind = NAN;
            negative = false;
            exponent = 0;
            significand = 0;
        }

        void becomeZero(boolean sign) {
            kind = ZERO;
            negative = sign;
            exponent = 0;
            significand = 0;
        }

        void becomeInfinite(boolean sign) {
            kind = INFINITE;
            negative = sign;
            exponent = 0;
            significand = 0;
        }

        void becomeFinite(boolean sign, int power, long bits) {
            kind = FINITE;
            negative = sign;
            exponent = power;
            significand = bits;
        }

        /** The magnitude is a number of 64 bits without a sign. */
        void becomeWhole(boolean sign, long magnitude) {
            if (magnitude == 0) {
                becomeZero(sign);
                return;
            }
            long bits = magnitude;
            int power = 63;
            for (int n = 0; n < 63 && bits > 0; n++) {
                bits <<= 1;
                power--;
            }
            becomeFinite(sign, power, bits);
        }

        /** NAN has no sign that could be turned over. */
        void negate() {
            negative = kind != NAN && !negative;
        }

        /** Whether a zero or a finite real has no bits behind the point. */
        boolean isWhole() {
            return exponent >= 63 || (exponent >= 0 && significand << (exponent + 1) == 0);
        }
    }

    /**
     * A finite number before it is rounded: its highest 64 bits, and 64 bits below them. Where it
     * goes on below those, the lowest bit is 1: it never stands where a rounding could keep it.
     */
    private static final class Exact {
        boolean negative;
        int exponent;
        long high;
        long low;

        void copy(Real x) {
            negative = x.negative;
            exponent = x.exponent;
            high = x.significand;
            low = 0;
        }

        boolean isZero() {
            return high == 0 && low == 0;
        }

        void becomeSum(Real y, Real x) {
            if (compareMagnitudes(y, x) >= 0) {
                combine(y, x);
            } else {
                combine(x, y);
            }
        }

        private void combine(Real larger, Real smaller) {
            copy(larger);
            int distance = larger.exponent - smaller.exponent;
            long upper = distance < 64 ? smaller.significand >>> distance : 0;
            long lower = lowerPart(smaller.significand, distance);
            if (larger.negative == smaller.negative) {
                putOn(upper, lower);
            } else {
                takeAway(upper, lower);
            }
        }

        /** What a shift to the right by distance moves below the 64 bits. */
        private static long lowerPart(long bits, int distance) {
            if (distance == 0) {
                return 0;
            }
            if (distance <= 64) {
                return bits << (64 - distance);
            }
            if (distance >= 128) {
                return 1;
            }
            long lost = bits << (128 - distance);
            return (bits >>> (distance - 64)) | (lost != 0 ? 1 : 0);
        }

        /** Only while low is 0. */
        private void putOn(long upper, long lower) {
            long sum = high + upper;
            low = lower;
            if (isBelow(sum, high)) {
                // With a carry less than 64 bits have gone down, so that lower ends in a 0.
                low = (sum << 63) | (lower >>> 1);
                sum = (sum >>> 1) | TOP_BIT;
                exponent++;
            }
            high = sum;
        }

        /** Only while low is 0, and for what is not larger. */
        private void takeAway(long upper, long lower) {
            high = high - upper - (lower != 0 ? 1 : 0);
            low = -lower;
            normalize();
        }

        private void normalize() {
            if (high == 0) {
                high = low;
                low = 0;
                exponent -= 64;
            }
            for (int n = 0; n < 63 && high > 0; n++) {
                high = (high << 1) | (low >>> 63);
                low <<= 1;
                exponent--;
            }
        }

        void becomeProduct(Real y, Real x) {
            negative = y.negative != x.negative;
            exponent = y.exponent + x.exponent + 1;
            multiplyBits(y.significand, x.significand);
            normalize();
        }

        private void multiplyBits(long a, long b) {
            long aHigh = a >>> 32;
            long aLow = a & LOW_HALF;
            long bHigh = b >>> 32;
            long bLow = b & LOW_HALF;
            long middle = aHigh * bLow + ((aLow * bLow) >>> 32);
            long crossed = aLow * bHigh + (middle & LOW_HALF);
            high = aHigh * bHigh + (middle >>> 32) + (crossed >>> 32);
            low = a * b;
        }

        void becomeQuotient(Real y, Real x) {
            negative = y.negative != x.negative;
            exponent = y.exponent - x.exponent;
            long divisor = x.significand;
            long rest = y.significand;
            int missing = 63;
            high = 1;
            if (isBelow(rest, divisor)) {
                exponent--;
                missing = 64;
                high = 0;
            } else {
                rest -= divisor;
            }
            for (int n = 0; n < missing; n++) {
                boolean fits = fitsInDouble(divisor, rest);
                rest = fits ? (rest << 1) - divisor : rest << 1;
                high = (high << 1) | (fits ? 1 : 0);
            }
            boolean half = fitsInDouble(divisor, rest);
            long left = half ? (rest << 1) - divisor : rest;
            low = (half ? TOP_BIT : 0) | (left != 0 ? 1 : 0);
        }

        /** Whether twice the rest, which may have 65 bits, is not below the divisor. */
        private static boolean fitsInDouble(long divisor, long rest) {
            return rest < 0 || !isBelow(rest << 1, divisor);
        }

        /** The radicand is put so that its whole root has 64 bits, and its exponent is even. */
        void becomeRoot(Real x) {
            boolean odd = (x.exponent & 1) != 0;
            long upper = odd ? x.significand : x.significand >>> 1;
            long lower = odd ? 0 : x.significand << 63;
            long root = 0;
            for (int n = 63; n >= 0; n--) {
                long candidate = root | (1L << n);
                multiplyBits(candidate, candidate);
                if (!isAbove(upper, lower)) {
                    root = candidate;
                }
            }
            multiplyBits(root, root);
            long leftLow = lower - low;
            long leftHigh = upper - high - (isBelow(lower, low) ? 1 : 0);
            // (root + 1/2) squared is root squared + root + 1/4.
            boolean half = leftHigh != 0 || isBelow(root, leftLow);
            negative = false;
            exponent = x.exponent >> 1;
            high = root;
            low = (half ? TOP_BIT : 0) | ((leftHigh | leftLow) != 0 ? 1 : 0);
        }

        private boolean isAbove(long upper, long lower) {
            return high == upper ? isBelow(lower, low) : isBelow(upper, high);
        }
    }

    /** The part of the control that says how numbers are rounded. */
    private static final class Rounding {
        int precision = 64;
        int way = NEAREST;

        /** Rounds to the control's precision. */
        int round(Exact exact, Real target) {
            return roundTo(exact, precision, LOWEST_EXPONENT, HIGHEST_EXPONENT, target);
        }

        int roundTo(Exact exact, int bits, int lowest, int highest, Real target) {
            long lastBit = 1L << (64 - bits);
            long lost = bits == 64 ? exact.low : exact.high << bits;
            boolean half = lost < 0;
            boolean rest = lost << 1 != 0 || (bits < 64 && exact.low != 0);
            long kept = exact.high & -lastBit;
            int power = exact.exponent;
            if (goesAway(exact.negative, (kept & lastBit) != 0, half, rest)) {
                kept += lastBit;
                if (kept == 0) {
                    kept = TOP_BIT;
                    power++;
                }
            }
            if (power > highest) {
                if (staysBelowInfinite(exact.negative)) {
                    target.becomeFinite(exact.negative, highest, -lastBit);
                } else {
                    target.becomeInfinite(exact.negative);
                }
                return OVERFLOW | INEXACT;
            }
            if (power < lowest) {
                target.becomeZero(exact.negative);
                return UNDERFLOW | INEXACT;
            }
            target.becomeFinite(exact.negative, power, kept);
            return half || rest ? INEXACT : 0;
        }

        /**
         * Whether the neighbour that is farther from 0 is taken: odd is the last bit that is kept,
         * half the first one that is lost, rest whether there is more behind it.
         */
        private boolean goesAway(boolean negative, boolean odd, boolean half, boolean rest) {
            if (way == NEAREST) {
                return half && (rest || odd);
            }
            boolean awayIsSaid = negative ? way == DOWN : way == UP;
            return awayIsSaid && (half || rest);
        }

        private boolean staysBelowInfinite(boolean negative) {
            return way == TOWARDS_ZERO || way == (negative ? UP : DOWN);
        }

        /** The magnitude of a zero or finite real made whole; its exponent is at most 63. */
        long wholeMagnitude(Real x) {
            if (x.exponent == 63) {
                return x.significand;
            }
            if (x.exponent < -1) {
                return goesAway(x.negative, false, false, true) ? 1 : 0;
            }
            // In two shifts, because with the exponent -1 all 64 bits go.
            long kept = x.significand >>> 1 >>> (62 - x.exponent);
            long lost = x.significand << (x.exponent + 1);
            boolean away = goesAway(x.negative, (kept & 1) != 0, lost < 0, lost << 1 != 0);
            return away ? kept + 1 : kept;
        }
    }

    /** The operations that make a real out of others: each answers its exceptions. */
    private static final class Arithmetic {
        private final Rounding rounding;
        private final Exact exact;

        Arithmetic(Rounding rounding) {
            this.rounding = rounding;
            exact = new Exact();
        }

        int add(Real y, Real x, Real target) {
            if (y.kind == NAN || x.kind == NAN) {
                target.becomeNan();
                return 0;
            }
            if (y.kind == INFINITE || x.kind == INFINITE) {
                return addInfinite(y, x, target);
            }
            if (y.kind == ZERO && x.kind == ZERO) {
                target.becomeZero(y.negative == x.negative ? y.negative : rounding.way == DOWN);
                return 0;
            }
            if (x.kind == ZERO) {
                exact.copy(y);
            } else if (y.kind == ZERO) {
                exact.copy(x);
            } else {
                exact.becomeSum(y, x);
            }
            if (exact.isZero()) {
                target.becomeZero(rounding.way == DOWN);
                return 0;
            }
            return rounding.round(exact, target);
        }

        private int addInfinite(Real y, Real x, Real target) {
            if (y.kind == x.kind && y.negative != x.negative) {
                return makeInvalid(target);
            }
            target.copy(y.kind == INFINITE ? y : x);
            return 0;
        }

        int multiply(Real y, Real x, Real target) {
            boolean negative = y.negative != x.negative;
            if (y.kind == NAN || x.kind == NAN) {
                target.becomeNan();
                return 0;
            }
            if (y.kind == INFINITE || x.kind == INFINITE) {
                if (y.kind == ZERO || x.kind == ZERO) {
                    return makeInvalid(target);
                }
                target.becomeInfinite(negative);
                return 0;
            }
            if (y.kind == ZERO || x.kind == ZERO) {
                target.becomeZero(negative);
                return 0;
            }
            exact.becomeProduct(y, x);
            return rounding.round(exact, target);
        }

        int divide(Real y, Real x, Real target) {
            boolean negative = y.negative != x.negative;
            if (y.kind == NAN || x.kind == NAN) {
                target.becomeNan();
                return 0;
            }
            if (y.kind == x.kind && y.kind != FINITE) {
                return makeInvalid(target);
            }
            if (y.kind == INFINITE) {
                target.becomeInfinite(negative);
                return 0;
            }
            if (x.kind == INFINITE || y.kind == ZERO) {
                target.becomeZero(negative);
                return 0;
            }
            if (x.kind == ZERO) {
                target.becomeInfinite(negative);
                return DIVIDED;
            }
            exact.becomeQuotient(y, x);
            return rounding.round(exact, target);
        }

        int root(Real x, Real target) {
            if (x.kind == ZERO || x.kind == NAN) {
                target.copy(x);
                return 0;
            }
            if (x.negative) {
                return makeInvalid(target);
            }
            if (x.kind == INFINITE) {
                target.copy(x);
                return 0;
            }
            exact.becomeRoot(x);
            return rounding.round(exact, target);
        }

        int makeWhole(Real x, Real target) {
            if (x.kind != FINITE || x.isWhole()) {
                target.copy(x);
                return 0;
            }
            target.becomeWhole(x.negative, rounding.wholeMagnitude(x));
            return INEXACT;
        }

        int scale(Real x, Real y, Real target) {
            if (y.kind == NAN || x.kind == NAN) {
                target.becomeNan();
                return 0;
            }
            if (y.kind == INFINITE || !y.isWhole() || y.exponent > 15) {
                return makeInvalid(target);
            }
            int power = (int) (y.significand >>> (63 - y.exponent));
            if (power > GREATEST_SCALE) {
                return makeInvalid(target);
            }
            if (x.kind != FINITE) {
                target.copy(x);
                return 0;
            }
            exact.copy(x);
            exact.exponent += y.negative ? -power : power;
            return rounding.round(exact, target);
        }

        private static int makeInvalid(Real target) {
            target.becomeNan();
            return INVALID;
        }
    }

    /** How a long in memory stands for a real. */
    private static final class Forms {
        private final Rounding rounding;
        private final Exact exact;
        private final Real rounded;
        /** What the last encode made. */
        long image;

        Forms(Rounding rounding) {
            this.rounding = rounding;
            exact = new Exact();
            rounded = new Real();
        }

        int decode(long cell, int form, Real target) {
            switch (form) {
                case WHOLE:
                    target.becomeWhole(cell < 0, cell < 0 ? -cell : cell);
                    return 0;
                case DOUBLE:
                    decodeBinary(cell, 11, 52, target);
                    return 0;
                case SINGLE:
                    decodeBinary(cell, 8, 23, target);
                    return 0;
                default:
                    return decodeDecimal(cell, target);
            }
        }

        private static void decodeBinary(long cell, int fieldBits, int fractionBits, Real target) {
            int full = (1 << fieldBits) - 1;
            int field = (int) (cell >>> fractionBits) & full;
            long fraction = cell & ((1L << fractionBits) - 1);
            boolean negative = ((cell >>> (fieldBits + fractionBits)) & 1) != 0;
            if (field == 0) {
                target.becomeZero(negative);
            } else if (field < full) {
                long bits = TOP_BIT | (fraction << (63 - fractionBits));
                target.becomeFinite(negative, field - (full >> 1), bits);
            } else if (fraction == 0) {
                target.becomeInfinite(negative);
            } else {
                target.becomeNan();
            }
        }

        private static int decodeDecimal(long cell, Real target) {
            long magnitude = 0;
            boolean valid = cell >>> (4 * DECIMAL_DIGITS) <= 1;
            for (int place = DECIMAL_DIGITS - 1; place >= 0; place--) {
                long digit = (cell >>> (4 * place)) & 15;
                valid = valid && digit <= 9;
                magnitude = magnitude * 10 + digit;
            }
            if (!valid) {
                target.becomeNan();
                return INVALID;
            }
            target.becomeWhole(cell >>> (4 * DECIMAL_DIGITS) == 1, magnitude);
            return 0;
        }

        /** Answers the exceptions and leaves the long in image. */
        int encode(Real x, int form) {
            switch (form) {
                case WHOLE:
                    return encodeWhole(x);
                case DOUBLE:
                    return encodeBinary(x, 11, 52);
                case SINGLE:
                    return encodeBinary(x, 8, 23);
                default:
                    return encodeDecimal(x);
            }
        }

        private int encodeWhole(Real x) {
            image = TOP_BIT;
            if (x.kind > FINITE || x.exponent > 63) {
                return INVALID;
            }
            long magnitude = rounding.wholeMagnitude(x);
            boolean isLowest = x.negative && magnitude == TOP_BIT;
            if (magnitude < 0 && !isLowest) {
                return INVALID;
            }
            image = x.negative ? -magnitude : magnitude;
            return x.isWhole() ? 0 : INEXACT;
        }

        private int encodeDecimal(Real x) {
            image = -1;
            // 10^15 is below 2^50.
            if (x.kind > FINITE || x.exponent > 49) {
                return INVALID;
            }
            long magnitude = rounding.wholeMagnitude(x);
            if (magnitude > GREATEST_DECIMAL) {
                return INVALID;
            }
            long digits = x.negative ? 1L << (4 * DECIMAL_DIGITS) : 0;
            for (int place = 0; place < DECIMAL_DIGITS; place++) {
                digits |= (magnitude % 10) << (4 * place);
                magnitude /= 10;
            }
            image = digits;
            return x.isWhole() ? 0 : INEXACT;
        }

        private int encodeBinary(Real x, int fieldBits, int fractionBits) {
            int highest = (1 << (fieldBits - 1)) - 1;
            int raised = 0;
            rounded.copy(x);
            if (x.kind == FINITE) {
                exact.copy(x);
                raised = rounding.roundTo(exact, fractionBits + 1, 1 - highest, highest, rounded);
            }
            image = binaryImage(rounded, fieldBits, fractionBits);
            return raised;
        }

        private static long binaryImage(Real x, int fieldBits, int fractionBits) {
            long signBit = 1L << (fieldBits + fractionBits);
            long sign = x.negative ? signBit : 0;
            long full = (1L << fieldBits) - 1;
            switch (x.kind) {
                case ZERO:
                    return sign;
                case FINITE:
                    long field = x.exponent + (full >> 1);
                    long fraction = (x.significand << 1) >>> (64 - fractionBits);
                    return sign | (field << fractionBits) | fraction;
                case INFINITE:
                    return sign | (full << fractionBits);
                default:
                    return signBit - 1;
            }
        }
    }

    /** The cells, the time, and the one store that may be under way. */
    private static final class Memory {
        final long[] cells = new long[CELLS];
        long now;
        private long freeAt;
        private boolean storing;
        private int target;
        private long coming;

        void goOn(long ticks) {
            now += ticks;
            if (storing && now >= freeAt) {
                cells[target] = coming;
                storing = false;
            }
        }

        int waitUntilFree() {
            int ticks = freeAt > now ? (int) (freeAt - now) : 0;
            goOn(ticks);
            return ticks;
        }

        void occupy(int ticks) {
            waitUntilFree();
            freeAt = now + ticks;
        }

        /** Only behind occupy, which has let an earlier store come to its end. */
        void storeWhenFree(int cell, long value) {
            target = cell;
            coming = value;
            storing = true;
        }
    }
}
