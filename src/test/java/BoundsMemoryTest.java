/** Boundary cases, sentence by sentence: MEMORY, its FORMS, LOAD and STORE. */
public final class BoundsMemoryTest {
    private static final Checks checks = new Checks("BoundsMemoryTest");
    private static final long TOP = Bench.TOP;
    private static final double INF = Double.POSITIVE_INFINITY;
    private static final double NAN = Double.NaN;
    private static final int OVER = Bench.OVERFLOW | Bench.INEXACT;
    private static final int UNDER = Bench.UNDERFLOW | Bench.INEXACT;
    private static final long MINUS_ZERO_DECIMAL = 1L << 60;

    public static void main(String[] args) {
        checks.sentence("MEMORY", "MEMORY has the cells 0 .. 7, longs.", BoundsMemoryTest::cells);
        checks.sentence("MEMORY", "0 WHOLE: the long.", BoundsMemoryTest::wholes);
        checks.sentence("MEMORY", "1 DOUBLE: 64 bits: sign, 11 bits of exponent (E + 1023", BoundsMemoryTest::doubles);
        checks.sentence("MEMORY, DOUBLE", "0 for zero", BoundsMemoryTest::doubleZeros);
        checks.sentence("MEMORY, DOUBLE", "2047 for infinite", BoundsMemoryTest::doubleInfinites);
        checks.sentence("MEMORY, DOUBLE", "and, with any other bits, NAN)", BoundsMemoryTest::doubleNans);
        checks.sentence("MEMORY, DOUBLE", "52 bits of F below its highest", BoundsMemoryTest::doubleBits);
        checks.sentence("MEMORY", "2 SINGLE: the lowest 32 bits", BoundsMemoryTest::lowestHalf);
        checks.sentence("MEMORY, SINGLE", "sign, 8 bits (E + 127", BoundsMemoryTest::singles);
        checks.sentence("MEMORY, SINGLE", "0 and 255 likewise)", BoundsMemoryTest::singleEnds);
        checks.sentence("MEMORY, SINGLE", "23 bits", BoundsMemoryTest::singleBits);
        checks.sentence("MEMORY", "3 DECIMAL: 16 digits of 4 bits, the highest 0 or 1 for the sign, 15 digits 0 .. 9", BoundsMemoryTest::decimals);
        checks.sentence("LOAD", "pushes what a cell holds, exactly (P has no part in it", BoundsMemoryTest::loadsExactly);
        checks.sentence("LOAD", "with an exponent field of 0 a zero, whatever the other bits)", BoundsMemoryTest::fieldOfZero);
        checks.sentence("LOAD", "DECIMAL with other digits: INVALID, NAN is pushed.", BoundsMemoryTest::otherDigits);
        checks.sentence("STORE", "takes x off and writes it to a cell", BoundsMemoryTest::takesOff);
        checks.sentence("STORE", "WHOLE and DECIMAL: the whole number that the rounding says", BoundsMemoryTest::storesWhole);
        checks.sentence("STORE", "(INEXACT when it was none)", BoundsMemoryTest::storesInexact);
        checks.sentence("STORE", "NAN, infinite [..] INVALID alone", BoundsMemoryTest::storesNoNumber);
        checks.sentence("STORE", "or (so made whole) too large: INVALID alone, and -2^63", BoundsMemoryTest::tooLargeWhole);
        checks.sentence("STORE", "or, DECIMAL, 15 (F) sixteen times, is written", BoundsMemoryTest::tooLargeDecimal);
        checks.sentence("STORE", "(A DECIMAL 0 keeps its sign.)", BoundsMemoryTest::decimalZero);
        checks.sentence("STORE", "DOUBLE and SINGLE: rounded to 53 or 24 bits", BoundsMemoryTest::storesRounded);
        checks.sentence("STORE, DOUBLE", "with E limited from -1022", BoundsMemoryTest::doubleTooSmall);
        checks.sentence("STORE, DOUBLE", "to 1023", BoundsMemoryTest::doubleTooLarge);
        checks.sentence("STORE, SINGLE", "(-126", BoundsMemoryTest::singleTooSmall);
        checks.sentence("STORE, SINGLE", "to 127)", BoundsMemoryTest::singleTooLarge);
        checks.sentence("STORE", "NAN is the exponent field full, the sign 0, all other bits 1", BoundsMemoryTest::storesNan);
        checks.sentence("STORE", "(Above a SINGLE's 32 bits are zeros.)", BoundsMemoryTest::zerosAbove);
        checks.end();
    }

    private static Bench bench() {
        return new Bench(checks);
    }

    /** Loads with all exceptions unmasked and the other precision, so that a flag would throw. */
    private static Bench loads(String what, long image, int form) {
        Bench b = bench().control(24, 1, 0);
        b.s.write(3, image);
        checks.due(what, b.s.load(3, form), 0);
        checks.due(what + ": flags()", b.s.flags(), 0);
        return b.depth(what, 1);
    }

    private static void loads(long image, int form, double due) {
        String what = Long.toHexString(image) + " in form " + form;
        loads(what, image, form).is(what, due);
    }

    private static void cells() {
        StackReal s = new StackReal();
        long[] values = {Long.MIN_VALUE, Long.MAX_VALUE, -1, 0, 1, 1L << 32, -1L << 32, 0x0123456789ABCDEFL};
        for (int shift = 0; shift < 8; shift++) {
            for (int cell = 0; cell < 8; cell++) {
                s.write(cell, values[(cell + shift) % 8]);
            }
            for (int cell = 0; cell < 8; cell++) {
                checks.due("memory(" + cell + ")", s.memory(cell), values[(cell + shift) % 8]);
            }
        }
        int[] none = {-1, 8};
        for (int cell : none) {
            checks.illegal("write to cell " + cell, () -> s.write(cell, 5));
            checks.illegal("memory of cell " + cell, () -> s.memory(cell));
            checks.illegal("load of cell " + cell, () -> s.load(cell, 0));
            checks.illegal("store to cell " + cell, () -> s.store(cell, 0));
        }
    }

    private static void wholes() {
        long[] values = {0, 1, -1, 2, Long.MAX_VALUE, -Long.MAX_VALUE, Long.MIN_VALUE, Long.MAX_VALUE - 1, Integer.MIN_VALUE};
        for (long value : values) {
            loads("whole " + value, value, Bench.WHOLE).control(64, 0, 31).stores("whole " + value, Bench.WHOLE, 0, value);
        }
        loads("2^63 - 1", Long.MAX_VALUE, Bench.WHOLE).top("2^63 - 1", 1, 62, -2);
        loads("-2^63", Long.MIN_VALUE, Bench.WHOLE).top("-2^63", 5, 63, TOP);
        loads("0", 0, Bench.WHOLE).top("0", 0, 0, 0);
    }

    private static void doubles() {
        loads("field 1", 1L << 52, Bench.DOUBLE).top("field 1", 1, -1022, TOP);
        loads("field 1, negative", TOP | 1L << 52, Bench.DOUBLE).top("field 1, negative", 5, -1022, TOP);
        loads("field 1023", 1023L << 52, Bench.DOUBLE).top("field 1023", 1, 0, TOP);
        loads("field 2046", 2046L << 52, Bench.DOUBLE).top("field 2046", 1, 1023, TOP);
        bench().finite(false, -1022, TOP).stores("E -1022", Bench.DOUBLE, 0, 1L << 52);
        bench().finite(true, 1023, TOP).stores("E 1023, negative", Bench.DOUBLE, 0, TOP | 2046L << 52);
    }

    private static void doubleZeros() {
        loads(0, Bench.DOUBLE, 0.0);
        loads(TOP, Bench.DOUBLE, -0.0);
        bench().zero(false).stores("0", Bench.DOUBLE, 0, 0);
        bench().zero(true).stores("-0", Bench.DOUBLE, 0, TOP);
    }

    private static void doubleInfinites() {
        loads(0x7FF0000000000000L, Bench.DOUBLE, INF);
        loads(0xFFF0000000000000L, Bench.DOUBLE, -INF);
        bench().infinite(false).stores("infinite", Bench.DOUBLE, 0, 0x7FF0000000000000L);
        bench().infinite(true).stores("-infinite", Bench.DOUBLE, 0, 0xFFF0000000000000L);
    }

    private static void doubleNans() {
        for (int bit = 0; bit < 52; bit++) {
            loads(0x7FF0000000000000L | 1L << bit, Bench.DOUBLE, NAN);
            loads(0xFFF0000000000000L | 1L << bit, Bench.DOUBLE, NAN);
        }
        loads(Long.MAX_VALUE, Bench.DOUBLE, NAN);
        loads(-1, Bench.DOUBLE, NAN);
    }

    private static void doubleBits() {
        loads("the lowest bit", 0x3FF0000000000001L, Bench.DOUBLE).top("the lowest bit", 1, 0, TOP | 1L << 11);
        loads("the highest bit", 0x3FF8000000000000L, Bench.DOUBLE).top("the highest bit", 1, 0, 3L << 62);
        loads("all bits", 0xBFFFFFFFFFFFFFFFL, Bench.DOUBLE).top("all bits", 5, 0, -1L << 11);
        bench().finite(false, 0, TOP | 1L << 11).stores("the lowest bit", Bench.DOUBLE, 0, 0x3FF0000000000001L);
        bench().finite(true, 0, -1L << 11).stores("all bits", Bench.DOUBLE, 0, 0xBFFFFFFFFFFFFFFFL);
    }

    private static void lowestHalf() {
        long[] above = {0, 1L << 32, TOP, -1L << 32};
        for (long bits : above) {
            loads(bits | 0x3F800000L, Bench.SINGLE, 1);
            loads(bits | 0xC0000000L, Bench.SINGLE, -2);
            loads(bits, Bench.SINGLE, 0.0);
            loads(bits | 0x80000000L, Bench.SINGLE, -0.0);
            loads(bits | 0x7F800000L, Bench.SINGLE, INF);
        }
    }

    private static void singles() {
        loads("field 1", 1L << 23, Bench.SINGLE).top("field 1", 1, -126, TOP);
        loads("field 127, negative", 1L << 31 | 127L << 23, Bench.SINGLE).top("field 127, negative", 5, 0, TOP);
        loads("field 254", 254L << 23, Bench.SINGLE).top("field 254", 1, 127, TOP);
        bench().finite(false, -126, TOP).stores("E -126", Bench.SINGLE, 0, 1L << 23);
        bench().finite(true, 127, TOP).stores("E 127, negative", Bench.SINGLE, 0, 1L << 31 | 254L << 23);
    }

    private static void singleEnds() {
        loads(0xFF800000L, Bench.SINGLE, -INF);
        for (int bit = 0; bit < 23; bit++) {
            loads(0x7F800000L | 1L << bit, Bench.SINGLE, NAN);
            loads(0xFF800000L | 1L << bit, Bench.SINGLE, NAN);
        }
        loads(0x80000000L, Bench.SINGLE, -0.0);
        bench().zero(false).stores("0", Bench.SINGLE, 0, 0);
        bench().zero(true).stores("-0", Bench.SINGLE, 0, 0x80000000L);
        bench().infinite(false).stores("infinite", Bench.SINGLE, 0, 0x7F800000L);
        bench().infinite(true).stores("-infinite", Bench.SINGLE, 0, 0xFF800000L);
    }

    private static void singleBits() {
        loads("the lowest bit", 0x3F800001L, Bench.SINGLE).top("the lowest bit", 1, 0, TOP | 1L << 40);
        loads("the highest bit", 0x3FC00000L, Bench.SINGLE).top("the highest bit", 1, 0, 3L << 62);
        loads("all bits", 0xBFFFFFFFL, Bench.SINGLE).top("all bits", 5, 0, -1L << 40);
        bench().finite(false, 0, TOP | 1L << 40).stores("the lowest bit", Bench.SINGLE, 0, 0x3F800001L);
        bench().finite(true, 0, -1L << 40).stores("all bits", Bench.SINGLE, 0, 0xBFFFFFFFL);
    }

    private static void decimals() {
        long power = 1;
        for (int place = 0; place < 15; place++) {
            for (int digit = 1; digit <= 9; digit++) {
                long image = (long) digit << (4 * place);
                loads(image, Bench.DECIMAL, digit * power);
                loads(MINUS_ZERO_DECIMAL | image, Bench.DECIMAL, -digit * power);
                bench().whole(-digit * power).stores(digit + " in place " + place, Bench.DECIMAL, 0, MINUS_ZERO_DECIMAL | image);
            }
            power *= 10;
        }
        loads(0x0999999999999999L, Bench.DECIMAL, 999999999999999.0);
        loads(0x1999999999999999L, Bench.DECIMAL, -999999999999999.0);
        loads(0x0123456789012345L, Bench.DECIMAL, 123456789012345.0);
        loads(0, Bench.DECIMAL, 0.0);
        loads(MINUS_ZERO_DECIMAL, Bench.DECIMAL, -0.0);
        bench().whole(999999999999999L).stores("the greatest", Bench.DECIMAL, 0, 0x0999999999999999L);
        bench().whole(-999999999999999L).stores("the least", Bench.DECIMAL, 0, 0x1999999999999999L);
    }

    private static void loadsExactly() {
        int[] precisions = {24, 53, 64};
        for (int precision : precisions) {
            for (int rounding = 0; rounding < 4; rounding++) {
                Bench b = bench().control(precision, rounding, 0);
                b.whole(Long.MAX_VALUE).top("63 bits", 1, 62, -2);
                b.whole(-Long.MAX_VALUE).top("63 bits, negative", 5, 62, -2);
                b.load(0xBFFFFFFFFFFFFFFFL, Bench.DOUBLE).top("53 bits", 5, 0, -1L << 11);
                b.load(0x0999999999999999L, Bench.DECIMAL).top("50 bits", 1, 49, 999999999999999L << 14);
                checks.due("flags()", b.s.flags(), 0);
            }
        }
    }

    private static void fieldOfZero() {
        for (int bit = 0; bit < 52; bit++) {
            loads(1L << bit, Bench.DOUBLE, 0.0);
            loads(TOP | 1L << bit, Bench.DOUBLE, -0.0);
        }
        for (int bit = 0; bit < 23; bit++) {
            loads(1L << bit, Bench.SINGLE, 0.0);
            loads(0x80000000L | 1L << bit, Bench.SINGLE, -0.0);
        }
        loads((1L << 52) - 1, Bench.DOUBLE, 0.0);
        loads((1L << 23) - 1, Bench.SINGLE, 0.0);
    }

    private static void otherDigits() {
        for (int place = 0; place < 16; place++) {
            for (long digit = place == 15 ? 2 : 10; digit < 16; digit++) {
                isNoDecimal(digit << (4 * place));
                isNoDecimal(digit << (4 * place) | 0x0111111111111111L & ~(15L << (4 * place)));
            }
        }
        isNoDecimal(-1);
    }

    private static void isNoDecimal(long image) {
        String what = "decimal " + Long.toHexString(image);
        Bench b = bench().whole(9);
        b.s.write(3, image);
        checks.due(what, b.s.load(3, Bench.DECIMAL), Bench.INVALID);
        b.depth(what, 2).is(what, NAN).is("what is below", 1, 9);
        checks.due(what + ": the cell", b.s.memory(3), image);
    }

    private static void takesOff() {
        for (int form = 0; form < 4; form++) {
            Bench b = bench();
            for (int n = 1; n <= 8; n++) {
                b.whole(9);
            }
            for (int cell = 0; cell < 8; cell++) {
                b.s.await();
                String before = Seen.cells(b.s);
                checks.due("store", b.s.store(cell, form), 0);
                b.depth("one less", 7 - cell);
                checks.due("nothing is written at once", Seen.cells(b.s), before);
                b.s.await();
                long due = new long[] {9, 0x4022000000000000L, 0x41100000L, 9}[form];
                checks.due("cell " + cell + ", form " + form, b.s.memory(cell), due);
            }
        }
        bench().whole(1).nan().stores("NAN is taken off", Bench.WHOLE, 1, Long.MIN_VALUE).depth("NAN", 1).is("what was below", 1);
    }

    private static void storesWhole() {
        double[] values = {0.5, 1.5, 2.5, 0.75, 1.25, 1e-300};
        long[][] due = {{0, 2, 2, 1, 1, 0}, {0, 1, 2, 0, 1, 0}, {1, 2, 3, 1, 2, 1}, {0, 1, 2, 0, 1, 0}};
        for (int rounding = 0; rounding < 4; rounding++) {
            int mirrored = rounding == 1 ? 2 : rounding == 2 ? 1 : rounding;
            for (int n = 0; n < values.length; n++) {
                String what = values[n] + ", rounding " + rounding;
                long whole = due[rounding][n];
                bench().control(64, rounding, 31).dbl(values[n]).stores(what, Bench.WHOLE, Bench.INEXACT, whole);
                bench().control(64, rounding, 31).dbl(values[n]).stores(what, Bench.DECIMAL, Bench.INEXACT, whole);
                bench().control(64, mirrored, 31).dbl(-values[n]).stores("-" + what, Bench.WHOLE, Bench.INEXACT, -whole);
                bench().control(64, mirrored, 31).dbl(-values[n]).stores("-" + what, Bench.DECIMAL, Bench.INEXACT, MINUS_ZERO_DECIMAL | whole);
            }
        }
        int[] forms = {Bench.WHOLE, Bench.DECIMAL};
        for (int form : forms) {
            bench().finite(false, -1, -1).stores("just below 1", form, Bench.INEXACT, 1);
            bench().finite(false, -1, TOP | 1).stores("just above 1/2", form, Bench.INEXACT, 1);
            bench().finite(false, -2, -1).stores("just below 1/2", form, Bench.INEXACT, 0);
        }
        // P has no part in it: the whole number keeps its 63 bits.
        bench().whole(Long.MAX_VALUE).control(24, 0, 31).stores("63 bits", Bench.WHOLE, 0, Long.MAX_VALUE);
        bench().whole(999999999999999L).control(24, 0, 31).stores("15 digits", Bench.DECIMAL, 0, 0x0999999999999999L);
    }

    private static void storesInexact() {
        for (int rounding = 0; rounding < 4; rounding++) {
            bench().control(64, rounding, 31).dbl(-7).stores("-7", Bench.WHOLE, 0, -7);
            bench().control(64, rounding, 31).dbl(-7).stores("-7", Bench.DECIMAL, 0, MINUS_ZERO_DECIMAL | 7);
            bench().control(64, rounding, 31).zero(true).stores("-0", Bench.WHOLE, 0, 0);
        }
        bench().finite(false, -16382, TOP).stores("the least", Bench.WHOLE, Bench.INEXACT, 0);
        bench().finite(false, -16382, TOP).stores("the least", Bench.DECIMAL, Bench.INEXACT, 0);
        bench().finite(false, 61, -1).control(64, 3, 31).stores("62 bits and two behind the point", Bench.WHOLE, Bench.INEXACT, (1L << 62) - 1);
    }

    private static void storesNoNumber() {
        double[] values = {NAN, INF, -INF};
        for (double value : values) {
            bench().dbl(value).stores(value + " whole", Bench.WHOLE, Bench.INVALID, Long.MIN_VALUE).depth("it is taken off", 0);
            bench().dbl(value).stores(value + " decimal", Bench.DECIMAL, Bench.INVALID, -1).depth("it is taken off", 0);
        }
    }

    private static void tooLargeWhole() {
        for (int rounding = 0; rounding < 4; rounding++) {
            bench().finite(false, 63, TOP).control(64, rounding, 31).stores("2^63", Bench.WHOLE, Bench.INVALID, Long.MIN_VALUE).depth("taken off", 0);
            bench().finite(true, 63, TOP).control(64, rounding, 31).stores("-2^63 is not", Bench.WHOLE, 0, Long.MIN_VALUE);
            bench().finite(true, 63, TOP | 1).control(64, rounding, 31).stores("-2^63 - 1", Bench.WHOLE, Bench.INVALID, Long.MIN_VALUE);
            bench().finite(true, 63, -1).control(64, rounding, 31).stores("-2^64 + 1", Bench.WHOLE, Bench.INVALID, Long.MIN_VALUE);
            bench().finite(false, 64, TOP).control(64, rounding, 31).stores("2^64", Bench.WHOLE, Bench.INVALID, Long.MIN_VALUE);
            bench().finite(false, 16383, -1).control(64, rounding, 31).stores("the greatest", Bench.WHOLE, Bench.INVALID, Long.MIN_VALUE);
            // So made whole: the rounding decides whether 2^63 - 1/2 is too large.
            boolean isUp = rounding == 0 || rounding == 2;
            bench().finite(false, 62, -1).control(64, rounding, 31).stores("2^63 - 1/2, rounding " + rounding, Bench.WHOLE,
                    isUp ? Bench.INVALID : Bench.INEXACT, isUp ? Long.MIN_VALUE : Long.MAX_VALUE);
            boolean isDown = rounding == 0 || rounding == 1;
            bench().finite(true, 62, -1).control(64, rounding, 31).stores("-2^63 + 1/2, rounding " + rounding, Bench.WHOLE,
                    Bench.INEXACT, isDown ? Long.MIN_VALUE : -Long.MAX_VALUE);
        }
    }

    private static void tooLargeDecimal() {
        for (int rounding = 0; rounding < 4; rounding++) {
            for (int sign = 0; sign < 2; sign++) {
                long factor = sign == 1 ? -1 : 1;
                bench().whole(factor * 1000000000000000L).control(64, rounding, 31).stores("10^15", Bench.DECIMAL, Bench.INVALID, -1).depth("taken off", 0);
                bench().whole(factor << 50).control(64, rounding, 31).stores("2^50", Bench.DECIMAL, Bench.INVALID, -1);
                bench().finite(sign == 1, 63, TOP).control(64, rounding, 31).stores("2^63", Bench.DECIMAL, Bench.INVALID, -1);
                bench().finite(sign == 1, 64, TOP).control(64, rounding, 31).stores("2^64", Bench.DECIMAL, Bench.INVALID, -1);
                bench().finite(sign == 1, 16383, -1).control(64, rounding, 31).stores("the greatest", Bench.DECIMAL, Bench.INVALID, -1);
                // So made whole: the rounding decides whether 10^15 - 1/2 is too large.
                boolean isAway = rounding == 0 || rounding == (sign == 1 ? 1 : 2);
                bench().dbl(factor * 999999999999999.5).control(64, rounding, 31).stores("10^15 - 1/2, rounding " + rounding, Bench.DECIMAL,
                        isAway ? Bench.INVALID : Bench.INEXACT, isAway ? -1 : (long) sign << 60 | 0x0999999999999999L);
            }
        }
    }

    private static void decimalZero() {
        for (int rounding = 0; rounding < 4; rounding++) {
            bench().control(64, rounding, 31).zero(false).stores("0", Bench.DECIMAL, 0, 0);
            bench().control(64, rounding, 31).zero(true).stores("-0", Bench.DECIMAL, 0, MINUS_ZERO_DECIMAL);
            long due = rounding == 1 ? MINUS_ZERO_DECIMAL | 1 : MINUS_ZERO_DECIMAL;
            bench().control(64, rounding, 31).dbl(-0.25).stores("-1/4, rounding " + rounding, Bench.DECIMAL, Bench.INEXACT, due);
            bench().control(64, rounding, 31).dbl(0.25).stores("1/4, rounding " + rounding, Bench.DECIMAL, Bench.INEXACT, rounding == 2 ? 1 : 0);
        }
        bench().zero(true).stores("a WHOLE 0 has no sign", Bench.WHOLE, 0, 0);
    }

    /** Whatever P is. */
    private static void storesRounded() {
        int[] precisions = {24, 53, 64};
        for (int precision : precisions) {
            for (int rounding = 0; rounding < 4; rounding++) {
                for (int sign = 0; sign < 2; sign++) {
                    rounds(precision, rounding, sign == 1, Bench.DOUBLE, 11, 52, 1023);
                    rounds(precision, rounding, sign == 1, Bench.SINGLE, 40, 23, 127);
                }
            }
        }
    }

    /** One and a last bit, and beyond it a quarter, a half and three quarters of one. */
    private static void rounds(int precision, int rounding, boolean negative, int form, int lost, int width, long field) {
        long below = ((negative ? 2 * field + 2 : 0) + field << width) + 1;
        boolean isAway = rounding == (negative ? 1 : 2);
        long last = 1L << lost;
        long[] parts = {0, 1, last / 4, last / 2 - 1, last / 2, last / 2 + 1, 3 * last / 4, last - 1};
        for (long part : parts) {
            boolean isUp = part != 0 && (isAway || rounding == 0 && part >= last / 2);
            String what = "form " + form + ", P " + precision + ", rounding " + rounding + ", " + part + " of " + last;
            bench().finite(negative, 0, TOP | last | part).control(precision, rounding, 31)
                    .stores(what, form, part == 0 ? 0 : Bench.INEXACT, isUp ? below + 1 : below);
        }
        boolean isUp = isAway;
        bench().finite(negative, 0, TOP | last / 2).control(precision, rounding, 31)
                .stores("a half over an even one", form, Bench.INEXACT, isUp ? below : below - 1);
    }

    private static void doubleTooSmall() {
        tooSmall(Bench.DOUBLE, -1022, 63, 1L << 52);
        bench().finite(false, -1023, -1).control(64, 0, 31).stores("rounded to the least", Bench.DOUBLE, Bench.INEXACT, 1L << 52);
        bench().finite(false, -1023, -1).control(64, 3, 31).stores("not rounded to it", Bench.DOUBLE, UNDER, 0);
        bench().finite(true, -1023, -1).control(64, 1, 31).stores("rounded to it, negative", Bench.DOUBLE, Bench.INEXACT, TOP | 1L << 52);
        bench().finite(true, -1023, -1).control(64, 2, 31).stores("not rounded to it, negative", Bench.DOUBLE, UNDER, TOP);
    }

    private static void singleTooSmall() {
        tooSmall(Bench.SINGLE, -126, 31, 1L << 23);
        bench().finite(false, -127, -1).control(64, 2, 31).stores("rounded to the least", Bench.SINGLE, Bench.INEXACT, 1L << 23);
        bench().finite(false, -127, -1).control(64, 1, 31).stores("not rounded to it", Bench.SINGLE, UNDER, 0);
    }

    private static void tooSmall(int form, int lowest, int signPlace, long least) {
        for (int rounding = 0; rounding < 4; rounding++) {
            for (int sign = 0; sign < 2; sign++) {
                long signBit = (long) sign << signPlace;
                String what = "rounding " + rounding + ", sign " + sign;
                bench().finite(sign == 1, lowest, TOP).control(64, rounding, 31).stores("the least, " + what, form, 0, signBit | least);
                bench().finite(sign == 1, lowest - 1, TOP).control(64, rounding, 31).stores("below it, " + what, form, UNDER, signBit);
                bench().finite(sign == 1, -16382, TOP).control(64, rounding, 31).stores("far below it, " + what, form, UNDER, signBit);
            }
        }
    }

    private static void doubleTooLarge() {
        tooLarge(Bench.DOUBLE, 1023, 11, 63, 0x7FEFFFFFFFFFFFFFL);
    }

    private static void singleTooLarge() {
        tooLarge(Bench.SINGLE, 127, 40, 31, 0x7F7FFFFFL);
    }

    private static void tooLarge(int form, int highest, int lost, int signPlace, long greatest) {
        for (int rounding = 0; rounding < 4; rounding++) {
            for (int sign = 0; sign < 2; sign++) {
                long signBit = (long) sign << signPlace;
                boolean stays = rounding == 3 || rounding == (sign == 1 ? 2 : 1);
                long due = signBit | (stays ? greatest : greatest + 1);
                String what = "rounding " + rounding + ", sign " + sign;
                bench().finite(sign == 1, highest, -1L << lost).control(24, rounding, 31).stores("the greatest, " + what, form, 0, signBit | greatest);
                bench().finite(sign == 1, highest + 1, TOP).control(24, rounding, 31).stores("above it, " + what, form, OVER, due);
                bench().finite(sign == 1, 16383, -1).control(64, rounding, 31).stores("far above it, " + what, form, OVER, due);
                bench().finite(sign == 1, highest, -1).control(64, rounding, 31)
                        .stores("rounded over it or not, " + what, form, stays ? Bench.INEXACT : OVER, due);
            }
        }
    }

    private static void storesNan() {
        bench().nan().stores("NAN", Bench.DOUBLE, 0, 0x7FFFFFFFFFFFFFFFL).depth("it is taken off", 0);
        bench().nan().stores("NAN", Bench.SINGLE, 0, 0x7FFFFFFFL).depth("it is taken off", 0);
        bench().load(0xFFF0000000000001L, Bench.DOUBLE).stores("another NAN", Bench.DOUBLE, 0, 0x7FFFFFFFFFFFFFFFL);
        bench().load(0xFFF0000000000001L, Bench.DOUBLE).gives("NEGATE", Bench.NEGATE, 0).stores("NAN turned over", Bench.SINGLE, 0, 0x7FFFFFFFL);
        bench().nan().control(24, 1, 0).stores("NAN is no exception", Bench.DOUBLE, 0, 0x7FFFFFFFFFFFFFFFL);
    }

    private static void zerosAbove() {
        double[] values = {-1, -0.0, -INF, NAN, 1, -Float.MAX_VALUE};
        for (double value : values) {
            Bench b = bench().dbl(value);
            b.s.write(6, -1);
            b.s.store(6, Bench.SINGLE);
            b.s.await();
            checks.due("the upper half of " + value, b.s.memory(6) >>> 32, 0);
            checks.due("the lower half of " + value, b.s.memory(6) & 0xFFFFFFFFL, Float.isNaN((float) value) ? 0x7FFFFFFFL
                    : Float.floatToRawIntBits((float) value) & 0xFFFFFFFFL);
        }
    }
}
