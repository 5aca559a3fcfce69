/** Promise 4: load. */
public final class LoadTest {
    private static final Checks checks = new Checks("LoadTest");
    private static final long TOP = Bench.TOP;

    public static void main(String[] args) {
        wrongInputs();
        wholes();
        doubles();
        singles();
        decimals();
        fullStack();
        unmasked();
        busy();
        checks.end();
    }

    private static void loads(String what, long image, int form, int kind, int exponent, long significand) {
        Bench b = new Bench(checks).control(24, 1, 0);
        b.s.write(0, image);
        checks.due(what, b.s.load(0, form), 0);
        b.top(what, kind, exponent, significand).depth(what, 1);
        checks.due(what + ": flags()", b.s.flags(), 0);
        checks.due(what + ": the cell stays", b.s.memory(0), image);
    }

    private static void wrongInputs() {
        StackReal s = new StackReal();
        int[] noCell = {Integer.MIN_VALUE, -1, 8, 9, Integer.MAX_VALUE};
        int[] noForm = {Integer.MIN_VALUE, -1, 4, 5, Integer.MAX_VALUE};
        for (int n = 0; n < 5; n++) {
            int cell = noCell[n];
            int form = noForm[n];
            checks.illegal("load(" + cell + ", 0)", () -> s.load(cell, 0));
            checks.illegal("load(0, " + form + ")", () -> s.load(0, form));
        }
        checks.due("depth() after wrong inputs", s.depth(), 0);
        checks.due("flags() after wrong inputs", s.flags(), 0);
        checks.due("await() after wrong inputs", s.await(), 0);
    }

    private static void wholes() {
        loads("0", 0, Bench.WHOLE, 0, 0, 0);
        loads("1", 1, Bench.WHOLE, 1, 0, TOP);
        loads("-1", -1, Bench.WHOLE, 5, 0, TOP);
        loads("2^63 - 1, with no part of P", Long.MAX_VALUE, Bench.WHOLE, 1, 62, -2);
        loads("-2^63", Long.MIN_VALUE, Bench.WHOLE, 5, 63, TOP);
        loads("-2^63 + 1", Long.MIN_VALUE + 1, Bench.WHOLE, 5, 62, -2);
        for (int cell = 0; cell < 8; cell++) {
            Bench b = new Bench(checks);
            b.s.write(cell, 3 + cell);
            b.s.load(cell, Bench.WHOLE);
            b.stores("cell " + cell, Bench.WHOLE, 0, 3 + cell);
        }
    }

    private static void doubles() {
        loads("1.0", Double.doubleToRawLongBits(1), Bench.DOUBLE, 1, 0, TOP);
        loads("-0.1", Double.doubleToRawLongBits(-0.1), Bench.DOUBLE, 5, -4, 0xCCCCCCCCCCCCD000L);
        loads("the greatest", Double.doubleToRawLongBits(Double.MAX_VALUE), Bench.DOUBLE, 1, 1023, -1L << 11);
        loads("the least", Double.doubleToRawLongBits(Double.MIN_NORMAL), Bench.DOUBLE, 1, -1022, TOP);
        loads("0.0", 0, Bench.DOUBLE, 0, 0, 0);
        loads("-0.0", TOP, Bench.DOUBLE, 4, 0, 0);
        loads("a field of 0 with other bits", 0x000FFFFFFFFFFFFFL, Bench.DOUBLE, 0, 0, 0);
        loads("a field of 0 with other bits and a sign", 0x8000000000000001L, Bench.DOUBLE, 4, 0, 0);
        loads("infinite", 0x7FF0000000000000L, Bench.DOUBLE, 2, 0, 0);
        loads("-infinite", 0xFFF0000000000000L, Bench.DOUBLE, 6, 0, 0);
        loads("NAN with the lowest bit", 0x7FF0000000000001L, Bench.DOUBLE, 3, 0, 0);
        loads("NAN with the highest bit and a sign", 0xFFF8000000000000L, Bench.DOUBLE, 3, 0, 0);
    }

    private static void singles() {
        loads("1.0f", Float.floatToRawIntBits(1), Bench.SINGLE, 1, 0, TOP);
        loads("-0.1f", Float.floatToRawIntBits(-0.1f) & 0xFFFFFFFFL, Bench.SINGLE, 5, -4, 0xCCCCCD0000000000L);
        loads("the upper half is not looked at", 0xFFFFFFFF00000000L | Float.floatToRawIntBits(1), Bench.SINGLE, 1, 0, TOP);
        loads("nor with a zero", 0xFFFFFFFF00000000L, Bench.SINGLE, 0, 0, 0);
        loads("the greatest f", Float.floatToRawIntBits(Float.MAX_VALUE), Bench.SINGLE, 1, 127, -1L << 40);
        loads("the least f", Float.floatToRawIntBits(Float.MIN_NORMAL), Bench.SINGLE, 1, -126, TOP);
        loads("-0.0f", 0x80000000L, Bench.SINGLE, 4, 0, 0);
        loads("a field of 0 with other bits, f", 0x007FFFFFL, Bench.SINGLE, 0, 0, 0);
        loads("infinite f", 0x7F800000L, Bench.SINGLE, 2, 0, 0);
        loads("-infinite f, below other bits", 0x12345678FF800000L, Bench.SINGLE, 6, 0, 0);
        loads("NAN f", 0x7F800001L, Bench.SINGLE, 3, 0, 0);
        loads("NAN f with a sign", 0xFFC00000L, Bench.SINGLE, 3, 0, 0);
    }

    private static void decimals() {
        loads("decimal 0", 0, Bench.DECIMAL, 0, 0, 0);
        loads("decimal -0", 1L << 60, Bench.DECIMAL, 4, 0, 0);
        loads("decimal 123", 0x123, Bench.DECIMAL, 1, 6, 123L << 57);
        loads("decimal -123", 0x1000000000000123L, Bench.DECIMAL, 5, 6, 123L << 57);
        loads("the greatest decimal", 0x0999999999999999L, Bench.DECIMAL, 1, 49, 999999999999999L << 14);
        loads("the least decimal", 0x1999999999999999L, Bench.DECIMAL, 5, 49, 999999999999999L << 14);
        for (int place = 0; place < 15; place++) {
            for (long digit = 10; digit < 16; digit++) {
                isNoDecimal(digit << (4 * place));
            }
        }
        for (long sign = 2; sign < 16; sign++) {
            isNoDecimal(sign << 60 | 5);
        }
    }

    private static void isNoDecimal(long image) {
        Bench b = new Bench(checks);
        b.s.write(0, image);
        String what = "decimal " + Long.toHexString(image);
        checks.due(what, b.s.load(0, Bench.DECIMAL), 1);
        b.top(what, 3, 0, 0).depth(what, 1);
        checks.due(what + ": flags()", b.s.flags(), 1);
    }

    private static Bench full() {
        Bench b = new Bench(checks);
        for (int n = 0; n < 8; n++) {
            b.whole(5);
        }
        return b;
    }

    private static void fullStack() {
        Bench b = full();
        checks.due("the eighth is still pushed", b.s.flags(), 0);
        b.depth("eight", 8);
        checks.due("a load on a full stack", b.s.load(0, Bench.WHOLE), 1);
        b.depth("a load on a full stack", 8).top("a load on a full stack", 1, 2, 5L << 61);
        checks.due("a load on a full stack takes its time", b.s.await(), 4);
    }

    private static void unmasked() {
        StackReal s = new Bench(checks).control(64, 0, 30).s;
        s.write(0, 10);
        checks.arithmetic("no decimal, not masked", () -> s.load(0, Bench.DECIMAL));
        checks.due("depth() then", s.depth(), 0);
        checks.due("flags() then", s.flags(), 1);
        checks.due("await() then", s.await(), 4);
        StackReal full = full().control(64, 0, 30).s;
        checks.arithmetic("a full stack, not masked", () -> full.load(0, 0));
        checks.due("depth() of it", full.depth(), 8);
        checks.due("flags() of it", full.flags(), 1);
    }

    private static void busy() {
        Bench b = new Bench(checks);
        b.s.load(0, 0);
        checks.due("time() at the first load", b.s.time(), 0);
        b.s.load(0, 0);
        checks.due("time() at the second load", b.s.time(), 4);
        checks.due("await() after it", b.s.await(), 4);
        b.whole(77);
        b.s.store(2, 0);
        checks.due("the store is not there yet", b.s.memory(2), 0);
        b.s.load(2, 0);
        checks.due("but the load has waited for it", b.s.memory(2), 77);
        b.stores("and has seen it", Bench.WHOLE, 0, 77);
    }
}
