/** A StackReal with short ways to bring reals on its stack; cell 7 is the bench's own. */
final class Bench {
    static final int ADD = 0, SUB = 1, MUL = 2, DIV = 3, SQRT = 4, INTEGER = 5, SCALE = 6, EXTRACT = 7;
    static final int ABSOLUTE = 8, NEGATE = 9, EXCHANGE = 10, COPY = 11, DROP = 12, COMPARE = 13, ONE = 14, ZERO = 15;
    static final int WHOLE = 0, DOUBLE = 1, SINGLE = 2, DECIMAL = 3;
    static final int INVALID = 1, DIVIDED = 2, OVERFLOW = 4, UNDERFLOW = 8, INEXACT = 16;
    static final long TOP = 1L << 63;

    private static final int CELL = 7;

    final StackReal s = new StackReal();
    private final Checks checks;

    Bench(Checks checks) {
        this.checks = checks;
    }

    Bench control(int precision, int rounding, int mask) {
        s.control(precision, rounding, mask);
        return this;
    }

    Bench load(long image, int form) {
        s.write(CELL, image);
        s.load(CELL, form);
        return this;
    }

    Bench whole(long value) {
        return load(value, WHOLE);
    }

    Bench dbl(double value) {
        return load(Double.doubleToRawLongBits(value), DOUBLE);
    }

    Bench nan() {
        return dbl(Double.NaN);
    }

    Bench infinite(boolean negative) {
        return dbl(negative ? Double.NEGATIVE_INFINITY : Double.POSITIVE_INFINITY);
    }

    Bench zero(boolean negative) {
        return dbl(negative ? -0.0 : 0.0);
    }

    /** Any finite real, made exactly: it needs precision 64 and room for three. */
    Bench finite(boolean negative, int exponent, long significand) {
        whole(32).whole(significand >>> 32);
        s.operate(SCALE, 0);
        dropBelow();
        whole(significand & 0xFFFFFFFFL);
        s.operate(ADD, 0);
        whole(exponent - 63);
        s.operate(EXCHANGE, 1);
        s.operate(SCALE, 0);
        dropBelow();
        if (negative) {
            s.operate(NEGATE, 0);
        }
        return this;
    }

    private void dropBelow() {
        s.operate(EXCHANGE, 1);
        s.operate(DROP, 0);
    }

    /**
     * Checks what an operation answers. Another real comes and goes first where there is room, so
     * that what a load has left inside the object is not taken for the result.
     */
    Bench gives(String what, int operation, int flags) {
        if (s.depth() < 8) {
            whole(-77);
            s.operate(DROP, 0);
        }
        checks.due(what, s.operate(operation, 0), flags);
        return this;
    }

    Bench top(String what, int kind, int exponent, long significand) {
        return at(what, 0, kind, exponent, significand);
    }

    Bench at(String what, int i, int kind, int exponent, long significand) {
        checks.due(what + ": kind(" + i + ")", s.kind(i), kind);
        checks.due(what + ": exponent(" + i + ")", s.exponent(i), exponent);
        checks.due(what + ": significand(" + i + ")", s.significand(i), significand);
        return this;
    }

    /** For every real that a double holds without a loss. */
    Bench is(String what, int i, double due) {
        long bits = Double.doubleToRawLongBits(due);
        int sign = bits < 0 ? 4 : 0;
        if (Double.isNaN(due)) {
            return at(what, i, 3, 0, 0);
        }
        if (Double.isInfinite(due)) {
            return at(what, i, 2 + sign, 0, 0);
        }
        if (due == 0) {
            return at(what, i, sign, 0, 0);
        }
        return at(what, i, 1 + sign, Math.getExponent(due), TOP | bits << 11);
    }

    Bench is(String what, double due) {
        return is(what, 0, due);
    }

    Bench depth(String what, int depth) {
        checks.due(what + ": depth()", s.depth(), depth);
        return this;
    }

    /** Stores ST0 into cell 6, and checks the answer and what stands there when the time is over. */
    Bench stores(String what, int form, int flags, long image) {
        checks.due(what, s.store(6, form), flags);
        s.await();
        checks.due(what + ": memory(6)", s.memory(6), image);
        return this;
    }
}
