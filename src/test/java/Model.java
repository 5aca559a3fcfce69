import java.math.BigInteger;
import java.util.ArrayList;
import java.util.List;

/**
 * The document once more, over fractions of whole numbers without a limit: what StackReal is
 * compared with. It shares no code with it and is as slow as it likes.
 */
final class Model {
    private static final BigInteger TWO = BigInteger.TWO;
    private static final int[] TICKS = {8, 8, 12, 20, 20, 6, 6, 6, 2, 2, 2, 2, 2, 2, 2, 2};

    /** A sign, and a fraction that is null for NAN and for infinite ones. */
    record Value(char kind, int sign, BigInteger over, BigInteger under) {
        static final Value NAN = new Value('n', 1, null, null);

        static Value zero(boolean negative) {
            return new Value('0', negative ? -1 : 1, BigInteger.ZERO, BigInteger.ONE);
        }

        static Value infinite(boolean negative) {
            return new Value('i', negative ? -1 : 1, null, null);
        }

        static Value fraction(boolean negative, BigInteger over, BigInteger under) {
            return new Value('f', negative ? -1 : 1, over, under);
        }

        static Value whole(long v) {
            return v == 0 ? zero(false) : fraction(v < 0, BigInteger.valueOf(v).abs(), BigInteger.ONE);
        }

        static Value power(boolean negative, BigInteger bits, int power) {
            return power >= 0 ? fraction(negative, bits.shiftLeft(power), BigInteger.ONE)
                    : fraction(negative, bits, BigInteger.ONE.shiftLeft(-power));
        }

        boolean is(char k) {
            return kind == k;
        }

        boolean negative() {
            return sign < 0;
        }

        Value turned() {
            return is('n') ? this : new Value(kind, -sign, over, under);
        }

        Value signed(boolean negative) {
            return is('n') ? this : new Value(kind, negative ? -1 : 1, over, under);
        }

        BigInteger signedOver() {
            return negative() ? over.negate() : over;
        }

        int binaryExponent() {
            int e = over.bitLength() - under.bitLength();
            boolean reached = e >= 0 ? over.compareTo(under.shiftLeft(e)) >= 0
                    : over.shiftLeft(-e).compareTo(under) >= 0;
            return reached ? e : e - 1;
        }

        boolean isWhole() {
            return is('0') || is('f') && over.mod(under).signum() == 0;
        }
    }

    private record Coming(long at, int cell, long value) { }

    private final List<Value> stack = new ArrayList<>();
    private final long[] cells = new long[8];
    private Coming coming;
    private int precision = 64;
    private int rounding = 0;
    private int mask = 31;
    private int flags = 0;
    private int condition = 0;
    private long now = 0;
    private long free = 0;
    private int raised;

    void control(int p, int r, int m) {
        legal((p == 24 || p == 53 || p == 64) && r >= 0 && r <= 3 && m >= 0 && m <= 31);
        precision = p;
        rounding = r;
        mask = m;
    }

    int operate(int operation, int i) {
        legal(operation >= 0 && operation <= 15);
        legal(operation != 10 && operation != 11 || i >= 0 && i <= 7);
        begin(TICKS[operation]);
        List<Value> next = new ArrayList<>(stack);
        int nextCondition = perform(operation, i, next);
        settle();
        if (next.size() <= 8) {
            stack.clear();
            stack.addAll(next);
        }
        condition = nextCondition;
        return raised;
    }

    int load(int cell, int form) {
        legal(cell >= 0 && cell <= 7 && form >= 0 && form <= 3);
        begin(4);
        Value v = null;
        if (stack.size() == 8) {
            raised = 1;
        } else {
            v = read(cells[cell], form);
        }
        settle();
        if (v != null) {
            stack.add(v);
        }
        return raised;
    }

    int store(int cell, int form) {
        legal(cell >= 0 && cell <= 7 && form >= 0 && form <= 3);
        begin(10);
        if (stack.isEmpty()) {
            raised = 1;
            settle();
            return raised;
        }
        long image = image(stack.get(stack.size() - 1), form);
        settle();
        stack.remove(stack.size() - 1);
        coming = new Coming(free, cell, image);
        return raised;
    }

    void write(int cell, long value) {
        legal(cell >= 0 && cell <= 7);
        cells[cell] = value;
    }

    long memory(int cell) {
        legal(cell >= 0 && cell <= 7);
        return cells[cell];
    }

    void pass(int n) {
        legal(n >= 0 && n <= 1000);
        for (int k = 0; k < n; k++) {
            tick();
        }
    }

    int await() {
        int n = 0;
        while (now < free) {
            tick();
            n++;
        }
        return n;
    }

    long time() {
        return now;
    }

    int flags() {
        return flags;
    }

    void clear() {
        flags = 0;
    }

    int condition() {
        return condition;
    }

    int depth() {
        return stack.size();
    }

    int kind(int i) {
        Value v = st(i);
        return "0fin".indexOf(v.kind()) + (v.negative() ? 4 : 0);
    }

    int exponent(int i) {
        Value v = st(i);
        return v.is('f') ? v.binaryExponent() : 0;
    }

    long significand(int i) {
        Value v = st(i);
        if (!v.is('f')) {
            return 0;
        }
        int shift = 63 - v.binaryExponent();
        BigInteger f = shift >= 0 ? v.over().shiftLeft(shift).divide(v.under())
                : v.over().divide(v.under().shiftLeft(-shift));
        return f.longValue();
    }

    private Value st(int i) {
        legal(i >= 0 && i < stack.size());
        return stack.get(stack.size() - 1 - i);
    }

    private static void legal(boolean condition) {
        if (!condition) {
            throw new IllegalArgumentException();
        }
    }

    private void tick() {
        now++;
        if (coming != null && coming.at() == now) {
            cells[coming.cell()] = coming.value();
            coming = null;
        }
    }

    private void begin(int ticks) {
        await();
        free = now + ticks;
        raised = 0;
    }

    private void settle() {
        flags |= raised;
        if ((raised & ~mask) != 0) {
            throw new ArithmeticException();
        }
    }

    /** Changes the copied stack, sets raised, and answers the condition. */
    private int perform(int operation, int i, List<Value> next) {
        int size = next.size();
        int needed = switch (operation) {
            case 0, 1, 2, 3, 6, 13 -> 2;
            case 10, 11 -> i + 1;
            case 14, 15 -> 0;
            default -> 1;
        };
        boolean growing = operation == 7 || operation == 11 || operation == 14 || operation == 15;
        if (size < needed || growing && size == 8) {
            raised = 1;
            return condition;
        }
        Value x = size > 0 ? next.get(size - 1) : null;
        Value y = size > 1 ? next.get(size - 2) : null;
        switch (operation) {
            case 0 -> twoToOne(next, sum(y, x));
            case 1 -> twoToOne(next, sum(y, x.turned()));
            case 2 -> twoToOne(next, product(y, x));
            case 3 -> twoToOne(next, quotient(y, x));
            case 4 -> next.set(size - 1, root(x));
            case 5 -> next.set(size - 1, integer(x));
            case 6 -> next.set(size - 1, scaled(x, y));
            case 7 -> {
                if (!x.is('f')) {
                    raised = 1;
                    return condition;
                }
                int e = x.binaryExponent();
                next.set(size - 1, Value.whole(e));
                next.add(e >= 0 ? Value.fraction(x.negative(), x.over(), x.under().shiftLeft(e))
                        : Value.fraction(x.negative(), x.over().shiftLeft(-e), x.under()));
            }
            case 8 -> next.set(size - 1, x.signed(false));
            case 9 -> next.set(size - 1, x.turned());
            case 10 -> {
                Value other = next.get(size - 1 - i);
                next.set(size - 1 - i, x);
                next.set(size - 1, other);
            }
            case 11 -> next.add(next.get(size - 1 - i));
            case 12 -> next.remove(size - 1);
            case 13 -> {
                return compare(x, y);
            }
            case 14 -> next.add(Value.whole(1));
            default -> next.add(Value.zero(false));
        }
        return condition;
    }

    private static void twoToOne(List<Value> next, Value v) {
        next.remove(next.size() - 1);
        next.set(next.size() - 1, v);
    }

    private Value invalid() {
        raised |= 1;
        return Value.NAN;
    }

    private Value sum(Value y, Value x) {
        if (y.is('n') || x.is('n')) {
            return Value.NAN;
        }
        if (y.is('i') && x.is('i')) {
            return y.sign() == x.sign() ? y : invalid();
        }
        if (y.is('i')) {
            return y;
        }
        if (x.is('i')) {
            return x;
        }
        if (y.is('0') && x.is('0') && y.sign() == x.sign()) {
            return y;
        }
        BigInteger under = y.under().max(x.under());
        BigInteger over = y.signedOver().multiply(under.divide(y.under()))
                .add(x.signedOver().multiply(under.divide(x.under())));
        if (over.signum() == 0) {
            return Value.zero(rounding == 1);
        }
        return round(Value.fraction(over.signum() < 0, over.abs(), under));
    }

    private Value product(Value y, Value x) {
        if (y.is('n') || x.is('n')) {
            return Value.NAN;
        }
        boolean negative = y.sign() * x.sign() < 0;
        if (y.is('0') && x.is('i') || y.is('i') && x.is('0')) {
            return invalid();
        }
        if (y.is('i') || x.is('i')) {
            return Value.infinite(negative);
        }
        if (y.is('0') || x.is('0')) {
            return Value.zero(negative);
        }
        return round(Value.fraction(negative, y.over().multiply(x.over()), y.under().multiply(x.under())));
    }

    private Value quotient(Value y, Value x) {
        if (y.is('n') || x.is('n')) {
            return Value.NAN;
        }
        boolean negative = y.sign() * x.sign() < 0;
        if (y.is('0') && x.is('0') || y.is('i') && x.is('i')) {
            return invalid();
        }
        if (y.is('i')) {
            return Value.infinite(negative);
        }
        if (x.is('i') || y.is('0')) {
            return Value.zero(negative);
        }
        if (x.is('0')) {
            raised |= 2;
            return Value.infinite(negative);
        }
        return round(Value.fraction(negative, y.over().multiply(x.under()), y.under().multiply(x.over())));
    }

    private Value root(Value x) {
        if (x.is('0') || x.is('n')) {
            return x;
        }
        if (x.negative()) {
            return invalid();
        }
        if (x.is('i')) {
            return x;
        }
        // 100 bits of root are enough to see where it stands between two numbers of 64 bits;
        // one bit more says whether there is a rest.
        int shift = Math.max(0, 200 - x.binaryExponent());
        shift += shift & 1;
        BigInteger radicand = x.over().shiftLeft(shift).divide(x.under());
        BigInteger[] r = radicand.sqrtAndRemainder();
        BigInteger rest = x.over().shiftLeft(shift).mod(x.under());
        BigInteger over = r[0].shiftLeft(1);
        if (r[1].signum() != 0 || rest.signum() != 0) {
            over = over.add(BigInteger.ONE);
        }
        return round(Value.fraction(false, over, BigInteger.ONE.shiftLeft(shift / 2 + 1)));
    }

    private Value integer(Value x) {
        if (!x.is('f')) {
            return x;
        }
        BigInteger whole = neighbour(x.negative(), x.over(), x.under());
        if (!x.isWhole()) {
            raised |= 16;
        }
        return whole.signum() == 0 ? Value.zero(x.negative()) : Value.fraction(x.negative(), whole, BigInteger.ONE);
    }

    private Value scaled(Value x, Value y) {
        if (y.is('n') || x.is('n')) {
            return Value.NAN;
        }
        if (!y.isWhole() || y.over().divide(y.under()).compareTo(BigInteger.valueOf(40000)) > 0) {
            return invalid();
        }
        if (!x.is('f')) {
            return x;
        }
        int power = y.sign() * y.over().divide(y.under()).intValueExact();
        return round(power >= 0 ? Value.fraction(x.negative(), x.over().shiftLeft(power), x.under())
                : Value.fraction(x.negative(), x.over(), x.under().shiftLeft(-power)));
    }

    private int compare(Value x, Value y) {
        if (x.is('n') || y.is('n')) {
            raised = 1;
            return 3;
        }
        int order;
        if (x.is('i') || y.is('i')) {
            order = Integer.compare(x.is('i') ? x.sign() : 0, y.is('i') ? y.sign() : 0);
        } else {
            order = x.signedOver().multiply(y.under()).compareTo(y.signedOver().multiply(x.under()));
        }
        return order > 0 ? 0 : order < 0 ? 1 : 2;
    }

    /** The whole number beside over / under that the rounding says. */
    private BigInteger neighbour(boolean negative, BigInteger over, BigInteger under) {
        BigInteger[] q = over.divideAndRemainder(under);
        if (q[1].signum() == 0) {
            return q[0];
        }
        int half = q[1].multiply(TWO).compareTo(under);
        boolean more = switch (rounding) {
            case 0 -> half > 0 || half == 0 && q[0].testBit(0);
            case 1 -> negative;
            case 2 -> !negative;
            default -> false;
        };
        return more ? q[0].add(BigInteger.ONE) : q[0];
    }

    private Value round(Value v) {
        return round(v, precision, -16382, 16383);
    }

    private Value round(Value v, int bits, int lowest, int highest) {
        int unit = v.binaryExponent() - bits + 1;
        BigInteger over = unit >= 0 ? v.over() : v.over().shiftLeft(-unit);
        BigInteger under = unit >= 0 ? v.under().shiftLeft(unit) : v.under();
        BigInteger f = neighbour(v.negative(), over, under);
        boolean exact = over.mod(under).signum() == 0;
        int e = unit + f.bitLength() - 1;
        if (e > highest) {
            raised |= 4 | 16;
            boolean greatest = rounding == 3 || rounding == 1 && !v.negative() || rounding == 2 && v.negative();
            BigInteger ones = BigInteger.ONE.shiftLeft(bits).subtract(BigInteger.ONE);
            return greatest ? Value.power(v.negative(), ones, highest - bits + 1) : Value.infinite(v.negative());
        }
        if (e < lowest) {
            raised |= 8 | 16;
            return Value.zero(v.negative());
        }
        if (!exact) {
            raised |= 16;
        }
        return Value.power(v.negative(), f, unit);
    }

    private Value read(long image, int form) {
        return switch (form) {
            case 0 -> Value.whole(image);
            case 1 -> readBinary(bits(image, 63, 1) == 1, (int) bits(image, 52, 11), 2047, bits(image, 0, 52), 52);
            case 2 -> readBinary(bits(image, 31, 1) == 1, (int) bits(image, 23, 8), 255, bits(image, 0, 23), 23);
            default -> readDecimal(String.format("%016x", image));
        };
    }

    private static long bits(long image, int from, int count) {
        return BigInteger.valueOf(image).shiftRight(from).mod(BigInteger.ONE.shiftLeft(count)).longValueExact();
    }

    private static Value readBinary(boolean negative, int field, int full, long fraction, int width) {
        if (field == 0) {
            return Value.zero(negative);
        }
        if (field == full) {
            return fraction == 0 ? Value.infinite(negative) : Value.NAN;
        }
        return Value.power(negative, BigInteger.valueOf((1L << width) + fraction), field - full / 2 - width);
    }

    private Value readDecimal(String digits) {
        if (!digits.matches("[01][0-9]{15}")) {
            return invalid();
        }
        boolean negative = digits.charAt(0) == '1';
        BigInteger magnitude = new BigInteger(digits.substring(1));
        return magnitude.signum() == 0 ? Value.zero(negative) : Value.fraction(negative, magnitude, BigInteger.ONE);
    }

    private long image(Value v, int form) {
        if (form == 1) {
            return binaryImage(v, 52, 1023);
        }
        if (form == 2) {
            return binaryImage(v, 23, 127);
        }
        BigInteger least = form == 0 ? BigInteger.valueOf(Long.MIN_VALUE) : BigInteger.valueOf(-999999999999999L);
        BigInteger most = form == 0 ? BigInteger.valueOf(Long.MAX_VALUE) : BigInteger.valueOf(999999999999999L);
        long refused = form == 0 ? Long.MIN_VALUE : -1;
        if (v.is('n') || v.is('i')) {
            raised = 1;
            return refused;
        }
        BigInteger magnitude = neighbour(v.negative(), v.over(), v.under());
        BigInteger whole = v.negative() ? magnitude.negate() : magnitude;
        if (whole.compareTo(least) < 0 || whole.compareTo(most) > 0) {
            raised = 1;
            return refused;
        }
        if (!v.isWhole()) {
            raised = 16;
        }
        if (form == 0) {
            return whole.longValueExact();
        }
        return Long.parseLong((v.negative() ? "1" : "0") + String.format("%015d", magnitude), 16);
    }

    private long binaryImage(Value v, int width, int bias) {
        long full = 2L * bias + 1;
        if (v.is('n')) {
            return (full + 1) * (1L << width) - 1;
        }
        Value r = v.is('f') ? round(v, width + 1, 1 - bias, bias) : v;
        long sign = r.negative() ? (full + 1) << width : 0;
        if (r.is('0')) {
            return sign;
        }
        if (r.is('i')) {
            return sign + (full << width);
        }
        int e = r.binaryExponent();
        int shift = width - e;
        BigInteger f = shift >= 0 ? r.over().shiftLeft(shift).divide(r.under())
                : r.over().divide(r.under().shiftLeft(-shift));
        return sign + ((long) (e + bias) << width) + (f.longValueExact() - (1L << width));
    }
}
