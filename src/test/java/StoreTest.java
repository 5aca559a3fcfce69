/** Promise 5: store. */
public final class StoreTest {
    private static final Checks checks = new Checks("StoreTest");
    private static final long TOP = Bench.TOP;
    private static final int OVER = Bench.OVERFLOW | Bench.INEXACT;
    private static final int UNDER = Bench.UNDERFLOW | Bench.INEXACT;

    public static void main(String[] args) {
        wrongInputs();
        wholes();
        decimals();
        doubles();
        singles();
        likeFloats();
        emptyStack();
        unmasked();
        busy();
        checks.end();
    }

    private static Bench bench() {
        return new Bench(checks);
    }

    private static void wrongInputs() {
        StackReal s = bench().whole(1).s;
        s.await();
        int[] noCell = {Integer.MIN_VALUE, -1, 8, 9, Integer.MAX_VALUE};
        int[] noForm = {Integer.MIN_VALUE, -1, 4, 5, Integer.MAX_VALUE};
        for (int n = 0; n < 5; n++) {
            int cell = noCell[n];
            int form = noForm[n];
            checks.illegal("store(" + cell + ", 0)", () -> s.store(cell, 0));
            checks.illegal("store(0, " + form + ")", () -> s.store(0, form));
        }
        checks.due("depth() after wrong inputs", s.depth(), 1);
        checks.due("flags() after wrong inputs", s.flags(), 0);
        checks.due("await() after wrong inputs", s.await(), 0);
    }

    private static void wholes() {
        double[] values = {2.5, 3.5, -2.5, 0.5, -0.5, 0.75, -0.25, 1e-300, -1e-300, 7.25};
        long[][] due = {
            {2, 4, -2, 0, 0, 1, 0, 0, 0, 7},
            {2, 3, -3, 0, -1, 0, -1, 0, -1, 7},
            {3, 4, -2, 1, 0, 1, 0, 1, 0, 8},
            {2, 3, -2, 0, 0, 0, 0, 0, 0, 7}};
        for (int rounding = 0; rounding < 4; rounding++) {
            for (int n = 0; n < values.length; n++) {
                bench().control(24, rounding, 31).dbl(values[n])
                        .stores(values[n] + " whole, rounding " + rounding, Bench.WHOLE, Bench.INEXACT, due[rounding][n]).depth("taken off", 0);
            }
        }
        bench().zero(true).stores("-0 whole", Bench.WHOLE, 0, 0);
        bench().whole(Long.MAX_VALUE).control(24, 0, 31).stores("2^63 - 1 whole", Bench.WHOLE, 0, Long.MAX_VALUE);
        bench().whole(Long.MIN_VALUE).stores("-2^63 whole", Bench.WHOLE, 0, Long.MIN_VALUE);
        bench().finite(false, 63, TOP).stores("2^63 whole", Bench.WHOLE, 1, Long.MIN_VALUE).depth("2^63 is taken off", 0);
        bench().finite(true, 63, TOP | 1).stores("-2^63 - 1 whole", Bench.WHOLE, 1, Long.MIN_VALUE);
        bench().finite(true, 64, TOP).stores("-2^64 whole", Bench.WHOLE, 1, Long.MIN_VALUE);
        bench().finite(false, 16383, -1).stores("the greatest whole", Bench.WHOLE, 1, Long.MIN_VALUE);
        bench().finite(false, 62, -1).stores("2^63 - 1/2, to the nearest", Bench.WHOLE, 1, Long.MIN_VALUE);
        bench().finite(false, 62, -1).control(64, 1, 31).stores("2^63 - 1/2, down", Bench.WHOLE, Bench.INEXACT, Long.MAX_VALUE);
        bench().finite(true, 62, -1).stores("-2^63 + 1/2, to the nearest", Bench.WHOLE, Bench.INEXACT, Long.MIN_VALUE);
        bench().infinite(false).stores("infinite whole", Bench.WHOLE, 1, Long.MIN_VALUE).depth("infinite is taken off", 0);
        bench().nan().stores("NAN whole", Bench.WHOLE, 1, Long.MIN_VALUE);
    }

    private static void decimals() {
        bench().whole(-123456789012345L).stores("a decimal", Bench.DECIMAL, 0, 0x1123456789012345L);
        bench().whole(0).stores("decimal 0", Bench.DECIMAL, 0, 0);
        bench().zero(true).stores("decimal -0", Bench.DECIMAL, 0, 1L << 60);
        bench().dbl(-0.25).stores("decimal -0.25", Bench.DECIMAL, Bench.INEXACT, 1L << 60);
        bench().dbl(-0.25).control(64, 1, 31).stores("decimal -0.25, down", Bench.DECIMAL, Bench.INEXACT, 1L << 60 | 1);
        bench().dbl(0.25).control(64, 2, 31).stores("decimal 0.25, up", Bench.DECIMAL, Bench.INEXACT, 1);
        bench().dbl(12.5).stores("decimal 12.5", Bench.DECIMAL, Bench.INEXACT, 0x12);
        bench().whole(999999999999999L).stores("the greatest decimal", Bench.DECIMAL, 0, 0x0999999999999999L);
        bench().whole(-999999999999999L).stores("the least decimal", Bench.DECIMAL, 0, 0x1999999999999999L);
        bench().whole(1000000000000000L).stores("10^15", Bench.DECIMAL, 1, -1).depth("10^15 is taken off", 0);
        bench().whole(-1000000000000000L).stores("-10^15", Bench.DECIMAL, 1, -1);
        bench().dbl(999999999999999.5).stores("10^15 - 1/2, to the nearest", Bench.DECIMAL, 1, -1);
        bench().dbl(999999999999999.5).control(64, 3, 31).stores("10^15 - 1/2, towards 0", Bench.DECIMAL, Bench.INEXACT, 0x0999999999999999L);
        bench().dbl(-999999999999999.5).control(64, 1, 31).stores("-10^15 + 1/2, down", Bench.DECIMAL, 1, -1);
        bench().whole(1L << 50).stores("2^50", Bench.DECIMAL, 1, -1);
        bench().whole(Long.MIN_VALUE).stores("-2^63 decimal", Bench.DECIMAL, 1, -1);
        bench().finite(false, 16383, TOP).stores("a great one decimal", Bench.DECIMAL, 1, -1);
        bench().infinite(true).stores("infinite decimal", Bench.DECIMAL, 1, -1);
        bench().nan().stores("NAN decimal", Bench.DECIMAL, 1, -1).depth("NAN is taken off", 0);
    }

    private static void doubles() {
        int f = Bench.DOUBLE;
        bench().finite(false, 0, -1).stores("2-e", f, Bench.INEXACT, Double.doubleToRawLongBits(2));
        bench().finite(false, 0, -1).control(24, 3, 31).stores("2-e, with no part of P", f, Bench.INEXACT, 0x3FFFFFFFFFFFFFFFL);
        bench().finite(true, 0, TOP | 1L << 10).stores("a tie", f, Bench.INEXACT, Double.doubleToRawLongBits(-1));
        bench().finite(true, 0, TOP | 3L << 10).stores("another tie", f, Bench.INEXACT, 0xBFF0000000000002L);
        bench().finite(false, 1023, -1L << 11).stores("the greatest", f, 0, Double.doubleToRawLongBits(Double.MAX_VALUE));
        bench().finite(false, 1023, -1).stores("above the greatest", f, OVER, 0x7FF0000000000000L);
        bench().finite(false, 1023, -1).control(64, 1, 31).stores("above the greatest, down", f, Bench.INEXACT, 0x7FEFFFFFFFFFFFFFL);
        bench().finite(false, 1024, TOP).stores("2^1024", f, OVER, 0x7FF0000000000000L);
        bench().finite(true, 1024, TOP).stores("-2^1024", f, OVER, 0xFFF0000000000000L);
        bench().finite(false, 16383, TOP).control(64, 3, 31).stores("a great one, towards 0", f, OVER, 0x7FEFFFFFFFFFFFFFL);
        bench().finite(true, 16383, TOP).control(64, 2, 31).stores("-a great one, up", f, OVER, 0xFFEFFFFFFFFFFFFFL);
        bench().finite(true, 16383, TOP).control(64, 1, 31).stores("-a great one, down", f, OVER, 0xFFF0000000000000L);
        bench().finite(false, -1022, TOP).stores("the least", f, 0, Double.doubleToRawLongBits(Double.MIN_NORMAL));
        bench().finite(false, -1023, TOP).stores("below the least", f, UNDER, 0);
        bench().finite(true, -1023, TOP).control(64, 1, 31).stores("-below the least", f, UNDER, TOP);
        bench().finite(false, -1023, -1).stores("rounded to the least", f, Bench.INEXACT, Double.doubleToRawLongBits(Double.MIN_NORMAL));
        bench().zero(false).stores("0", f, 0, 0);
        bench().zero(true).stores("-0", f, 0, TOP);
        bench().infinite(false).stores("infinite", f, 0, 0x7FF0000000000000L);
        bench().infinite(true).stores("-infinite", f, 0, 0xFFF0000000000000L);
        bench().nan().stores("NAN", f, 0, 0x7FFFFFFFFFFFFFFFL).depth("NAN is taken off", 0);
    }

    private static void singles() {
        int f = Bench.SINGLE;
        bench().dbl(-0.1).stores("-0.1f, with zeros above", f, Bench.INEXACT, 0xBDCCCCCDL);
        bench().dbl(-1.5).stores("-1.5f", f, 0, 0xBFC00000L);
        bench().finite(false, 0, TOP | 1L << 39).stores("a tie f", f, Bench.INEXACT, 0x3F800000L);
        bench().finite(false, 0, TOP | 3L << 39).stores("another tie f", f, Bench.INEXACT, 0x3F800002L);
        bench().finite(false, 0, TOP | 1).control(24, 2, 31).stores("1+e f, up", f, Bench.INEXACT, 0x3F800001L);
        bench().finite(false, 127, -1L << 40).stores("the greatest f", f, 0, 0x7F7FFFFFL);
        bench().finite(false, 128, TOP).stores("2^128", f, OVER, 0x7F800000L);
        bench().finite(true, 128, TOP).control(64, 2, 31).stores("-2^128, up", f, OVER, 0xFF7FFFFFL);
        bench().finite(false, 128, TOP).control(64, 1, 31).stores("2^128, down", f, OVER, 0x7F7FFFFFL);
        bench().finite(false, -126, TOP).stores("the least f", f, 0, 0x00800000L);
        bench().finite(true, -127, TOP).stores("-below the least f", f, UNDER, 0x80000000L);
        bench().finite(false, -127, TOP).control(64, 2, 31).stores("below the least f, up", f, UNDER, 0);
        bench().zero(true).stores("-0 f", f, 0, 0x80000000L);
        bench().infinite(false).stores("infinite f", f, 0, 0x7F800000L);
        bench().infinite(true).stores("-infinite f", f, 0, 0xFF800000L);
        bench().nan().stores("NAN f", f, 0, 0x7FFFFFFFL);
    }

    private static void likeFloats() {
        double[] values = {1, -3, 0.1, 1e10, 1.0 / 3, -123456789.123, 3e38, 1.2e-38, 16777217};
        for (double value : values) {
            boolean same = (double) (float) value == value;
            bench().dbl(value).stores(value + " as a float", Bench.SINGLE, same ? 0 : Bench.INEXACT,
                    Float.floatToRawIntBits((float) value) & 0xFFFFFFFFL);
        }
    }

    private static void emptyStack() {
        StackReal s = new StackReal();
        s.write(3, 12);
        for (int form = 0; form < 4; form++) {
            checks.due("store of nothing, form " + form, s.store(3, form), 1);
            checks.due("it takes its time", s.await(), 10);
            checks.due("and writes nothing", s.memory(3), 12);
        }
        checks.due("flags() of it", s.flags(), 1);
        s.control(64, 0, 30);
        checks.arithmetic("store of nothing, not masked", () -> s.store(3, 0));
    }

    private static void unmasked() {
        throwsAndKeeps("INEXACT", 15, Bench.WHOLE, 16, bench().dbl(2.5));
        throwsAndKeeps("INVALID", 30, Bench.WHOLE, 1, bench().nan());
        throwsAndKeeps("INVALID, without INEXACT", 0, Bench.DECIMAL, 1, bench().dbl(999999999999999.5));
        throwsAndKeeps("OVERFLOW", 27, Bench.DOUBLE, 20, bench().finite(false, 1024, TOP));
        throwsAndKeeps("UNDERFLOW", 23, Bench.SINGLE, 24, bench().finite(false, -127, TOP));
        bench().dbl(999999999999999.5).control(64, 0, 15).stores("INVALID alone", Bench.DECIMAL, 1, -1);
    }

    private static void throwsAndKeeps(String what, int mask, int form, int flags, Bench b) {
        StackReal s = b.s;
        int kind = s.kind(0);
        int exponent = s.exponent(0);
        long significand = s.significand(0);
        s.await();
        s.write(5, 99);
        s.control(64, 0, mask);
        checks.arithmetic(what, () -> s.store(5, form));
        checks.due(what + ": flags()", s.flags(), flags);
        b.depth(what, 1).top(what, kind, exponent, significand);
        checks.due(what + ": await()", s.await(), 10);
        checks.due(what + ": memory(5)", s.memory(5), 99);
    }

    private static void busy() {
        StackReal s = bench().whole(5).whole(6).s;
        s.await();
        long time = s.time();
        s.store(1, 0);
        checks.due("time() at the store", s.time(), time);
        checks.due("depth() at once", s.depth(), 1);
        checks.due("memory(1) after 0 ticks", s.memory(1), 0);
        s.pass(9);
        checks.due("memory(1) after 9 ticks", s.memory(1), 0);
        s.pass(1);
        checks.due("memory(1) after 10 ticks", s.memory(1), 6);
        checks.due("await() after 10 ticks", s.await(), 0);
        s.operate(Bench.COPY, 0);
        s.store(1, 0);
        s.store(2, 0);
        checks.due("a second store waits for the first", s.memory(1), 5);
        checks.due("and is not there yet", s.memory(2), 0);
        s.pass(1000);
        checks.due("it is there later", s.memory(2), 5);
        s.write(2, 8);
        s.pass(10);
        checks.due("and comes once alone", s.memory(2), 8);
    }
}
