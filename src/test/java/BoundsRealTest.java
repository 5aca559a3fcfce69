/** Boundary cases, sentence by sentence: the number of calls, REAL and STACK, and CONTROL. */
public final class BoundsRealTest {
    private static final Checks checks = new Checks("BoundsRealTest");
    private static final long TOP = Bench.TOP;

    public static void main(String[] args) {
        checks.sentence("What it is", "An object is used for at most 512 calls after it has been made", BoundsRealTest::the512thCall);
        checks.sentence("REAL", "A REAL is NAN, or has a sign (negative or not)", BoundsRealTest::nanHasNoSign);
        checks.sentence("REAL", "with an exponent E from -16382", BoundsRealTest::lowestExponent);
        checks.sentence("REAL", "to 16383", BoundsRealTest::highestExponent);
        checks.sentence("REAL", "a SIGNIFICAND F of 64 bits whose highest bit is 1", BoundsRealTest::highestBit);
        checks.sentence("REAL", "it is F * 2^(E - 63), negative or not", BoundsRealTest::value);
        checks.sentence("STACK", "The STACK has at most 8 reals", BoundsRealTest::eightReals);
        checks.sentence("STACK", "ST0 is its top, ST1 the one below, and so on", BoundsRealTest::order);
        checks.sentence("CONTROL", "a precision P of 24, 53 or 64 bits", BoundsRealTest::precisions);
        checks.sentence("CONTROL", "(64 at first)", BoundsRealTest::firstPrecision);
        checks.sentence("CONTROL", "a ROUNDING (0 at first)", BoundsRealTest::firstRounding);
        checks.sentence("CONTROL", "and a MASK (31 at first)", BoundsRealTest::firstMask);
        checks.sentence("CONTROL", "a bit for each EXCEPTION: 0 INVALID", () -> maskBit(Bench.INVALID));
        checks.sentence("CONTROL", "1 DIVIDED by zero", () -> maskBit(Bench.DIVIDED));
        checks.sentence("CONTROL", "2 OVERFLOW", () -> maskBit(Bench.OVERFLOW));
        checks.sentence("CONTROL", "3 UNDERFLOW", () -> maskBit(Bench.UNDERFLOW));
        checks.sentence("CONTROL", "4 INEXACT", () -> maskBit(Bench.INEXACT));
        checks.sentence("CONTROL", "FLAGS, a bit for each, are set by exceptions", BoundsRealTest::eachFlag);
        checks.sentence("CONTROL", "and stay until they are cleared", BoundsRealTest::flagsStay);
        checks.sentence("CONTROL", "(0 at first)", () -> checks.due("flags()", new StackReal().flags(), 0));
        checks.end();
    }

    private static Bench bench() {
        return new Bench(checks);
    }

    private static void the512thCall() {
        StackReal passing = new StackReal();
        for (int call = 1; call <= 511; call++) {
            passing.pass(1000);
        }
        checks.due("time() as the 512th call", passing.time(), 511000);
        StackReal dividing = new StackReal();
        dividing.operate(Bench.ONE, 0);
        for (int call = 2; call <= 511; call++) {
            dividing.operate(Bench.DIV, 0);
        }
        checks.due("await() as the 512th call", dividing.await(), 20);
        StackReal storing = new StackReal();
        for (int call = 1; call <= 510; call += 2) {
            storing.operate(Bench.ONE, 0);
            storing.store(5, Bench.WHOLE);
        }
        storing.await();
        checks.due("memory(5) as the 512th call", storing.memory(5), 1);
    }

    private static void nanHasNoSign() {
        bench().load(-1, Bench.DOUBLE).is("NAN out of a cell with a sign", Double.NaN);
        bench().load(-1, Bench.SINGLE).is("NAN out of a single with a sign", Double.NaN);
        bench().nan().gives("NEGATE", Bench.NEGATE, 0).is("NAN turned over", Double.NaN);
        bench().nan().whole(-5).gives("MUL", Bench.MUL, 0).is("NAN * -5", Double.NaN);
        bench().whole(-5).nan().gives("SUB", Bench.SUB, 0).is("-5 - NAN", Double.NaN);
        bench().whole(-4).gives("SQRT", Bench.SQRT, 1).is("the root of -4", Double.NaN);
        bench().infinite(true).infinite(false).gives("ADD", Bench.ADD, 1).is("-inf + inf", Double.NaN);
        bench().zero(true).infinite(false).gives("MUL", Bench.MUL, 1).is("-0 * inf", Double.NaN);
        bench().zero(true).zero(false).gives("DIV", Bench.DIV, 1).is("-0 / 0", Double.NaN);
        bench().dbl(0.5).whole(-5).gives("SCALE", Bench.SCALE, 1).is("-5 * 2^0.5", Double.NaN);
        bench().load(0x1A00000000000000L, Bench.DECIMAL).is("no decimal, negative", Double.NaN);
    }

    private static void lowestExponent() {
        bench().finite(false, -16381, TOP).whole(2).gives("2^-16381 / 2", Bench.DIV, 0).top("2^-16382", 1, -16382, TOP);
        bench().finite(true, -16381, -1).whole(2).gives("/ 2", Bench.DIV, 0).top("all ones, negative", 5, -16382, -1);
        bench().finite(false, -16382, TOP).whole(2).gives("2^-16382 / 2", Bench.DIV, Bench.UNDERFLOW | Bench.INEXACT).is("no 2^-16383", 0.0);
    }

    private static void highestExponent() {
        bench().finite(false, 16382, TOP).whole(2).gives("2^16382 * 2", Bench.MUL, 0).top("2^16383", 1, 16383, TOP);
        bench().finite(true, 16382, -1).whole(2).gives("* 2", Bench.MUL, 0).top("all ones, negative", 5, 16383, -1);
        bench().finite(false, 16383, TOP).whole(2).gives("2^16383 * 2", Bench.MUL, Bench.OVERFLOW | Bench.INEXACT)
                .is("no 2^16384", Double.POSITIVE_INFINITY);
    }

    private static void highestBit() {
        bench().whole(1).top("the least F", 1, 0, TOP);
        bench().finite(false, 0, -1).top("the greatest F", 1, 0, -1);
        bench().finite(false, 0, TOP | 1).whole(1).gives("(1 + 2^-63) - 1", Bench.SUB, 0).top("its highest bit is up again", 1, -63, TOP);
        bench().finite(false, 1, TOP).finite(false, 0, -1).gives("2 - (2 - 2^-63)", Bench.SUB, 0).top("over two words", 1, -63, TOP);
        bench().finite(false, 0, -1).finite(false, 0, -1).gives("twice all ones", Bench.ADD, 0).top("a carry", 1, 1, -1);
        bench().whole(3).whole(3).gives("3 * 3", Bench.MUL, 0).top("a product of 128 bits", 1, 3, 9L << 60);
        bench().whole(1).whole(1).gives("1 * 1", Bench.MUL, 0).top("a product of 127 bits", 1, 0, TOP);
        bench().whole(1).whole(8).gives("1 / 8", Bench.DIV, 0).top("a quotient", 1, -3, TOP);
        bench().whole(3).whole(2).gives("3 / 2", Bench.DIV, 0).top("a quotient above 1", 1, 0, 3L << 62);
        bench().whole(4).gives("root of 4", Bench.SQRT, 0).top("root of 4", 1, 1, TOP);
    }

    private static void value() {
        bench().finite(false, 62, 5L << 61).stores("5 * 2^61 * 2^(62 - 63)", Bench.WHOLE, 0, 5L << 60);
        bench().finite(true, 62, -2).stores("the most negative but one", Bench.WHOLE, 0, -Long.MAX_VALUE);
        bench().whole(-1).top("-1", 5, 0, TOP);
        bench().whole(Long.MIN_VALUE).top("-2^63", 5, 63, TOP);
    }

    private static void eightReals() {
        Bench b = bench();
        for (int n = 1; n <= 8; n++) {
            checks.due("real " + n, b.s.operate(Bench.ONE, 0), 0);
            checks.due("depth() after real " + n, b.s.depth(), n);
        }
        checks.due("the ninth", b.s.operate(Bench.ONE, 0), Bench.INVALID);
        checks.due("depth() after the ninth", b.s.depth(), 8);
    }

    private static void order() {
        Bench b = bench();
        for (int n = 0; n < 8; n++) {
            b.whole(1L << n);
        }
        for (int i = 0; i < 8; i++) {
            b.is("ST" + i + " of eight", i, 1L << (7 - i));
        }
    }

    private static void precisions() {
        int[] precisions = {24, 53, 64};
        for (int bits : precisions) {
            // 1 + 2^-(bits - 1) has just so many bits, 1 + 2^-bits has one more.
            bench().control(bits, 3, 31).dbl(1).dbl(Math.scalb(1.0, 1 - bits)).gives(bits + " bits", Bench.ADD, 0)
                    .top(bits + " bits", 1, 0, TOP | 1L << (64 - bits));
            bench().control(bits, 3, 31).dbl(1).dbl(Math.scalb(1.0, -bits)).gives("one bit more than " + bits, Bench.ADD, Bench.INEXACT)
                    .top("one bit more than " + bits, 1, 0, TOP);
        }
    }

    private static void firstPrecision() {
        bench().dbl(1).dbl(Math.scalb(1.0, -63)).gives("1 + 2^-63", Bench.ADD, 0).top("64 bits", 1, 0, TOP | 1);
        bench().dbl(1).dbl(Math.scalb(1.0, -64)).gives("1 + 2^-64", Bench.ADD, Bench.INEXACT).top("not 65", 1, 0, TOP);
    }

    private static void firstRounding() {
        // 2/3 goes up to the nearest, 1/5 down, and so do their negatives away from and towards 0.
        bench().whole(2).whole(3).gives("2 / 3", Bench.DIV, Bench.INEXACT).top("2 / 3", 1, -1, 0xAAAAAAAAAAAAAAABL);
        bench().whole(-2).whole(3).gives("-2 / 3", Bench.DIV, Bench.INEXACT).top("-2 / 3", 5, -1, 0xAAAAAAAAAAAAAAABL);
        bench().whole(8).whole(7).gives("8 / 7", Bench.DIV, Bench.INEXACT).top("8 / 7", 1, 0, 0x9249249249249249L);
        bench().whole(-8).whole(7).gives("-8 / 7", Bench.DIV, Bench.INEXACT).top("-8 / 7", 5, 0, 0x9249249249249249L);
    }

    private static void firstMask() {
        for (int exception = 1; exception <= 16; exception <<= 1) {
            Bench b = withException(exception);
            int raised = exception == Bench.OVERFLOW || exception == Bench.UNDERFLOW ? exception | Bench.INEXACT : exception;
            checks.due("exception " + exception + " of a new object", b.s.operate(Bench.DIV, 0), raised);
        }
    }

    /** A DIV on it has this exception. */
    private static Bench withException(int exception) {
        return switch (exception) {
            case Bench.INVALID -> bench().whole(0).whole(0);
            case Bench.DIVIDED -> bench().whole(1).whole(0);
            case Bench.OVERFLOW -> bench().finite(false, 16383, TOP).dbl(0.5);
            case Bench.UNDERFLOW -> bench().finite(false, -16382, TOP).whole(2);
            default -> bench().whole(1).whole(3);
        };
    }

    /** With this bit alone in the mask all others throw, without it alone this one does. */
    private static void maskBit(int bit) {
        for (int exception = 1; exception <= 16; exception <<= 1) {
            boolean hasTwo = exception == Bench.OVERFLOW || exception == Bench.UNDERFLOW;
            int raised = hasTwo ? exception | Bench.INEXACT : exception;
            divides("only " + bit + " masked, exception " + exception, bit, exception, (raised & ~bit) != 0);
            divides("all but " + bit + " masked, exception " + exception, 31 - bit, exception, (raised & bit) != 0);
        }
    }

    private static void divides(String what, int mask, int exception, boolean isThrown) {
        StackReal s = withException(exception).control(64, 0, mask).s;
        if (isThrown) {
            checks.arithmetic(what, () -> s.operate(Bench.DIV, 0));
        } else {
            checks.fine(what, () -> s.operate(Bench.DIV, 0));
        }
    }

    private static void eachFlag() {
        for (int exception = 1; exception <= 16; exception <<= 1) {
            Bench b = withException(exception);
            checks.due("flags() before " + exception, b.s.flags(), 0);
            b.s.operate(Bench.DIV, 0);
            boolean hasTwo = exception == Bench.OVERFLOW || exception == Bench.UNDERFLOW;
            int raised = hasTwo ? exception | Bench.INEXACT : exception;
            checks.due("flags() after " + exception, b.s.flags(), raised);
            Bench unmasked = withException(exception).control(64, 0, 0);
            checks.arithmetic("exception " + exception + ", not masked", () -> unmasked.s.operate(Bench.DIV, 0));
            checks.due("flags() after " + exception + ", not masked", unmasked.s.flags(), raised);
        }
    }

    private static void flagsStay() {
        Bench b = withException(Bench.DIVIDED);
        b.s.operate(Bench.DIV, 0);
        b.whole(1).whole(3).gives("1 / 3", Bench.DIV, Bench.INEXACT).gives("ABSOLUTE", Bench.ABSOLUTE, 0);
        b.control(24, 1, 0);
        b.s.pass(1000);
        b.s.await();
        checks.due("flags() much later", b.s.flags(), Bench.DIVIDED | Bench.INEXACT);
        b.s.clear();
        checks.due("flags() when they are cleared", b.s.flags(), 0);
    }
}
