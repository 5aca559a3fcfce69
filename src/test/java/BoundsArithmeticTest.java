import java.math.BigInteger;

/** Boundary cases, sentence by sentence: OPERATIONS 0 to 3, that is ADD, SUB, MUL and DIV. */
public final class BoundsArithmeticTest {
    private static final Checks checks = new Checks("BoundsArithmeticTest");
    private static final long TOP = Bench.TOP;
    private static final double INF = Double.POSITIVE_INFINITY;
    private static final double NAN = Double.NaN;
    private static final double[] ALL = {NAN, INF, -INF, 0.0, -0.0, 5, -5};

    public static void main(String[] args) {
        checks.sentence("OPERATIONS 0 to 3", "both go, the result comes", BoundsArithmeticTest::bothGo);
        checks.sentence("OPERATIONS 0 to 3", "0 ADD y + x, 1 SUB y - x, 2 MUL y * x, 3 DIV y / x", BoundsArithmeticTest::orderOfOperands);
        checks.sentence("OPERATIONS 0 to 3", "NAN when one is", BoundsArithmeticTest::nanWhenOneIs);
        checks.sentence("OPERATIONS, ADD", "infinite ones with unlike signs are INVALID, NAN", BoundsArithmeticTest::unlikeInfinites);
        checks.sentence("OPERATIONS, ADD", "else an infinite one is the result", BoundsArithmeticTest::infiniteSums);
        checks.sentence("OPERATIONS, ADD", "both zeros: zero, with the sign that both have", BoundsArithmeticTest::likeZeros);
        checks.sentence("OPERATIONS, ADD", "otherwise [..] negative with rounding 1 alone", BoundsArithmeticTest::unlikeZeros);
        checks.sentence("OPERATIONS, ADD", "(or when other numbers' sum is 0)", BoundsArithmeticTest::sumsOfNothing);
        checks.sentence("OPERATIONS, ADD", "else the exact sum, rounded", BoundsArithmeticTest::exactSums);
        checks.sentence("OPERATIONS, SUB", "as ADD with x's sign turned over", BoundsArithmeticTest::differences);
        checks.sentence("OPERATIONS, MUL", "zero times infinite: INVALID, NAN", BoundsArithmeticTest::zeroTimesInfinite);
        checks.sentence("OPERATIONS, MUL", "the sign is negative when just one's is", BoundsArithmeticTest::signsOfProducts);
        checks.sentence("OPERATIONS, MUL", "infinite when one is", BoundsArithmeticTest::infiniteProducts);
        checks.sentence("OPERATIONS, MUL", "zero when one is", BoundsArithmeticTest::zeroProducts);
        checks.sentence("OPERATIONS, MUL", "else the exact product, rounded", BoundsArithmeticTest::exactProducts);
        checks.sentence("OPERATIONS, DIV", "zero by zero [..] INVALID, NAN", BoundsArithmeticTest::zeroByZero);
        checks.sentence("OPERATIONS, DIV", "infinite by infinite: INVALID, NAN", BoundsArithmeticTest::infiniteByInfinite);
        checks.sentence("OPERATIONS, DIV", "the sign likewise", BoundsArithmeticTest::signsOfQuotients);
        checks.sentence("OPERATIONS, DIV", "infinite when y is", BoundsArithmeticTest::infiniteByOthers);
        checks.sentence("OPERATIONS, DIV", "zero when x is infinite", BoundsArithmeticTest::othersByInfinite);
        checks.sentence("OPERATIONS, DIV", "or y is zero", BoundsArithmeticTest::zeroByOthers);
        checks.sentence("OPERATIONS, DIV", "infinite, DIVIDED, when x is zero", BoundsArithmeticTest::dividedByZero);
        checks.sentence("OPERATIONS, DIV", "else the exact quotient, rounded", BoundsArithmeticTest::exactQuotients);
        checks.end();
    }

    private static Bench bench() {
        return new Bench(checks);
    }

    private static void gives(double y, int operation, double x, int flags, double due) {
        String what = "operation " + operation + " of y = " + y + " and x = " + x;
        Bench b = bench().dbl(y).dbl(x).gives(what, operation, flags).is(what, due).depth(what, 1);
        checks.due(what + ": flags()", b.s.flags(), flags);
    }

    private static void givesWith(int rounding, double y, int operation, double x, int flags, double due) {
        String what = "operation " + operation + " of y = " + y + " and x = " + x + ", rounding " + rounding;
        bench().control(64, rounding, 31).dbl(y).dbl(x).gives(what, operation, flags).is(what, due);
    }

    private static void bothGo() {
        for (int operation = Bench.ADD; operation <= Bench.DIV; operation++) {
            double due = new double[] {12, 8, 20, 5}[operation];
            Bench b = bench();
            for (int n = 1; n <= 6; n++) {
                b.whole(-n);
            }
            b.whole(10).whole(2).gives("operation " + operation, operation, 0).depth("one less", 7).is("the result", due);
            for (int i = 1; i <= 6; i++) {
                b.is("those below stay", i, i - 7);
            }
        }
    }

    private static void orderOfOperands() {
        gives(10, Bench.ADD, 4, 0, 14);
        gives(10, Bench.SUB, 4, 0, 6);
        gives(10, Bench.MUL, 4, 0, 40);
        gives(10, Bench.DIV, 4, 0, 2.5);
    }

    private static void nanWhenOneIs() {
        for (int operation = Bench.ADD; operation <= Bench.DIV; operation++) {
            for (double other : ALL) {
                gives(NAN, operation, other, 0, NAN);
                gives(other, operation, NAN, 0, NAN);
            }
        }
    }

    private static void unlikeInfinites() {
        gives(INF, Bench.ADD, -INF, 1, NAN);
        gives(-INF, Bench.ADD, INF, 1, NAN);
    }

    private static void infiniteSums() {
        double[] finite = {0.0, -0.0, 5, -5, Double.MAX_VALUE, -Double.MAX_VALUE};
        for (double other : finite) {
            gives(INF, Bench.ADD, other, 0, INF);
            gives(other, Bench.ADD, INF, 0, INF);
            gives(-INF, Bench.ADD, other, 0, -INF);
            gives(other, Bench.ADD, -INF, 0, -INF);
        }
        gives(INF, Bench.ADD, INF, 0, INF);
        gives(-INF, Bench.ADD, -INF, 0, -INF);
    }

    private static void likeZeros() {
        for (int rounding = 0; rounding < 4; rounding++) {
            givesWith(rounding, 0.0, Bench.ADD, 0.0, 0, 0.0);
            givesWith(rounding, -0.0, Bench.ADD, -0.0, 0, -0.0);
        }
    }

    private static void unlikeZeros() {
        for (int rounding = 0; rounding < 4; rounding++) {
            double due = rounding == 1 ? -0.0 : 0.0;
            givesWith(rounding, 0.0, Bench.ADD, -0.0, 0, due);
            givesWith(rounding, -0.0, Bench.ADD, 0.0, 0, due);
        }
    }

    private static void sumsOfNothing() {
        for (int rounding = 0; rounding < 4; rounding++) {
            int kind = rounding == 1 ? 4 : 0;
            givesWith(rounding, 5, Bench.ADD, -5, 0, rounding == 1 ? -0.0 : 0.0);
            givesWith(rounding, -5, Bench.ADD, 5, 0, rounding == 1 ? -0.0 : 0.0);
            bench().finite(false, 16383, -1).finite(true, 16383, -1).control(24, rounding, 31)
                    .gives("the greatest and its negative", Bench.ADD, 0).top("the greatest, rounding " + rounding, kind, 0, 0);
            bench().finite(true, -16382, TOP).finite(false, -16382, TOP).control(64, rounding, 31)
                    .gives("the least and its negative", Bench.ADD, 0).top("the least, rounding " + rounding, kind, 0, 0);
        }
    }

    private static void exactSums() {
        for (int rounding = 0; rounding < 4; rounding++) {
            bench().finite(false, 16383, TOP).finite(false, -16382, TOP).control(64, rounding, 31)
                    .gives("as far apart as can be", Bench.ADD, Bench.INEXACT).top("rounding " + rounding, 1, 16383, rounding == 2 ? TOP | 1 : TOP);
        }
        // With one zero it is the other's turn to be rounded.
        bench().finite(true, 0, -1).zero(false).control(24, 1, 31).gives("x a zero", Bench.ADD, Bench.INEXACT).is("x a zero", -2);
        bench().zero(true).finite(true, 0, -1).control(24, 2, 31).gives("y a zero", Bench.ADD, Bench.INEXACT)
                .top("y a zero", 5, 0, -1L << 40);
        bench().zero(true).finite(true, 0, -1).gives("y a zero, 64 bits", Bench.ADD, 0).top("y a zero, 64 bits", 5, 0, -1);
        int[] distances = {1, 31, 32, 62, 63};
        for (int distance : distances) {
            bench().finite(false, 0, TOP).finite(false, -distance, TOP).gives("1 + 2^-" + distance, Bench.ADD, 0)
                    .top("1 + 2^-" + distance, 1, 0, TOP | 1L << (63 - distance));
            bench().finite(false, 0, TOP).finite(true, -distance, TOP).gives("1 - 2^-" + distance, Bench.ADD, 0)
                    .top("1 - 2^-" + distance, 1, -1, -1L << (64 - distance));
        }
        int[] beyond = {64, 65, 127, 128, 129, 191, 192, 193, 16382};
        for (int distance : beyond) {
            bench().finite(false, 0, TOP).finite(false, -distance, TOP).control(64, 2, 31).gives("1 + 2^-" + distance, Bench.ADD, Bench.INEXACT)
                    .top("1 + 2^-" + distance + ", up", 1, 0, TOP | 1);
            bench().finite(false, 0, TOP | 1).finite(true, -distance, TOP).control(64, 3, 31).gives("a last bit - 2^-" + distance, Bench.ADD, Bench.INEXACT)
                    .top("a last bit - 2^-" + distance + ", towards 0", 1, 0, TOP);
            bench().finite(false, 0, TOP).finite(false, -distance, TOP).gives("1 + 2^-" + distance, Bench.ADD, Bench.INEXACT)
                    .top("1 + 2^-" + distance + ", to the nearest", 1, 0, TOP);
            bench().finite(false, 0, TOP | 3).finite(true, -distance, TOP).gives("last bits - 2^-" + distance, Bench.ADD, Bench.INEXACT)
                    .top("last bits - 2^-" + distance + ", to the nearest", 1, 0, distance == 64 ? TOP | 2 : TOP | 3);
        }
        sumsAroundAMiddle();
    }

    /** What is far below decides whether a number lies in the middle of two others. */
    private static void sumsAroundAMiddle() {
        sum("the middle", 0, TOP | 1, -64, TOP, 0, TOP | 2);
        sum("above the middle", 0, TOP, -64, TOP | 1, 0, TOP | 1);
        sum("below the middle", 0, TOP | 1, -65, -1, 0, TOP | 1);
        difference("just the middle below 1", -65, TOP, 0, TOP);
        difference("beyond the middle by 2^-128", -65, TOP | 1, -1, -1);
        difference("before the middle by 2^-129", -66, -1, 0, TOP);
        // A carry moves all bits down by one, and what was below 64 bits by one more.
        long quarter = TOP + (1L << 61);
        sum("a carry, the middle", 0, -3, -1, TOP, 1, quarter - 2);
        sum("a carry, above the middle", 0, -3, -1, TOP | 1, 1, quarter - 1);
        sum("a carry, below the middle", 0, -2, -1, TOP | 1, 1, quarter - 1);
        bench().finite(false, 0, -1).finite(false, -63, TOP | 1).control(64, 2, 31).gives("a carry, a bit far below", Bench.ADD, Bench.INEXACT)
                .top("a carry, a bit far below", 1, 1, TOP | 1);
    }

    private static void sum(String what, int yExponent, long y, int xExponent, long x, int exponent, long due) {
        bench().finite(false, yExponent, y).finite(false, xExponent, x).gives(what, Bench.ADD, Bench.INEXACT).top(what, 1, exponent, due);
    }

    private static void difference(String what, int xExponent, long x, int exponent, long due) {
        bench().whole(1).finite(false, xExponent, x).gives(what, Bench.SUB, Bench.INEXACT).top(what, 1, exponent, due);
    }

    private static void differences() {
        for (double y : ALL) {
            for (double x : ALL) {
                for (int rounding = 0; rounding < 2; rounding++) {
                    differsLikeASum(y, x, rounding);
                }
            }
        }
        givesWith(1, 0.0, Bench.SUB, 0.0, 0, -0.0);
        givesWith(0, 0.0, Bench.SUB, 0.0, 0, 0.0);
        givesWith(0, -0.0, Bench.SUB, 0.0, 0, -0.0);
        givesWith(1, 0.0, Bench.SUB, -0.0, 0, 0.0);
        gives(INF, Bench.SUB, INF, 1, NAN);
        gives(-INF, Bench.SUB, -INF, 1, NAN);
        gives(INF, Bench.SUB, -INF, 0, INF);
        gives(5, Bench.SUB, INF, 0, -INF);
        givesWith(1, 5, Bench.SUB, 5, 0, -0.0);
    }

    private static void differsLikeASum(double y, double x, int rounding) {
        String what = y + " - " + x + " is " + y + " + " + -x + ", rounding " + rounding;
        StackReal sum = bench().control(64, rounding, 31).dbl(y).dbl(Double.isNaN(x) ? x : -x).s;
        StackReal difference = bench().control(64, rounding, 31).dbl(y).dbl(x).s;
        checks.due(what, difference.operate(Bench.SUB, 0), sum.operate(Bench.ADD, 0));
        checks.due(what, Seen.stack(difference), Seen.stack(sum));
    }

    private static void zeroTimesInfinite() {
        double[] zeros = {0.0, -0.0};
        double[] infinites = {INF, -INF};
        for (double zero : zeros) {
            for (double infinite : infinites) {
                gives(zero, Bench.MUL, infinite, 1, NAN);
                gives(infinite, Bench.MUL, zero, 1, NAN);
            }
        }
    }

    private static void signsOfProducts() {
        gives(5, Bench.MUL, 5, 0, 25);
        gives(5, Bench.MUL, -5, 0, -25);
        gives(-5, Bench.MUL, 5, 0, -25);
        gives(-5, Bench.MUL, -5, 0, 25);
        for (int rounding = 0; rounding < 4; rounding++) {
            givesWith(rounding, 0.0, Bench.MUL, -5, 0, -0.0);
            givesWith(rounding, -0.0, Bench.MUL, -5, 0, 0.0);
        }
    }

    private static void infiniteProducts() {
        double[] others = {5, INF, Double.MIN_NORMAL};
        for (double other : others) {
            gives(INF, Bench.MUL, other, 0, INF);
            gives(other, Bench.MUL, INF, 0, INF);
            gives(INF, Bench.MUL, -other, 0, -INF);
            gives(-other, Bench.MUL, INF, 0, -INF);
            gives(-INF, Bench.MUL, -other, 0, INF);
            gives(-other, Bench.MUL, -INF, 0, INF);
        }
    }

    private static void zeroProducts() {
        double[] others = {5, 0.0, Double.MAX_VALUE};
        for (double other : others) {
            gives(0.0, Bench.MUL, other, 0, 0.0);
            gives(other, Bench.MUL, 0.0, 0, 0.0);
            gives(-0.0, Bench.MUL, other, 0, -0.0);
            gives(other, Bench.MUL, -0.0, 0, -0.0);
            gives(-0.0, Bench.MUL, -other, 0, 0.0);
            gives(-other, Bench.MUL, -0.0, 0, 0.0);
        }
    }

    private static void exactProducts() {
        // (2^64 - 1)^2 is 2^128 - 2^65 + 1: the 1 is 127 bits below the highest.
        bench().finite(false, 0, -1).finite(false, 0, -1).control(64, 3, 31).gives("all ones", Bench.MUL, Bench.INEXACT).top("cut", 1, 1, -2);
        bench().finite(false, 0, -1).finite(false, 0, -1).control(64, 2, 31).gives("all ones", Bench.MUL, Bench.INEXACT).top("up", 1, 1, -1);
        // (2^63 + 1)^2 is 2^126 + 2^64 + 1.
        bench().finite(false, 0, TOP | 1).finite(false, 0, TOP | 1).control(64, 1, 31).gives("1 and e", Bench.MUL, Bench.INEXACT).top("down", 1, 0, TOP | 2);
        bench().finite(false, 0, TOP | 1).finite(false, 0, TOP | 1).control(64, 2, 31).gives("1 and e", Bench.MUL, Bench.INEXACT).top("up", 1, 0, TOP | 3);
        // (2^32 + 1) * (2^32 - 1) has all of 64 bits, (2^32 + 1)^2 has one more.
        bench().whole((1L << 32) + 1).whole((1L << 32) - 1).gives("64 bits", Bench.MUL, 0).top("64 bits", 1, 63, -1);
        bench().whole((1L << 32) + 1).whole((1L << 32) + 1).gives("65 bits", Bench.MUL, Bench.INEXACT).top("65 bits", 1, 64, TOP | 1L << 32);
        bench().finite(false, -16382, TOP).finite(false, 16383, TOP).gives("from both ends", Bench.MUL, 0).is("from both ends", 2);
        for (long y : Wide.SIGNIFICANDS) {
            for (long x : Wide.SIGNIFICANDS) {
                BigInteger product = Wide.unsigned(y).multiply(Wide.unsigned(x));
                for (int rounding = 0; rounding < 4; rounding++) {
                    String what = Long.toHexString(y) + " * " + Long.toHexString(x) + ", rounding " + rounding;
                    Bench b = bench().finite(false, 0, y).finite(false, 0, x).control(64, rounding, 31);
                    b.s.operate(Bench.MUL, 0);
                    Wide.isRounded(b, what, product, false, product.bitLength() - 127, rounding);
                }
            }
        }
    }

    private static void zeroByZero() {
        gives(0.0, Bench.DIV, 0.0, 1, NAN);
        gives(0.0, Bench.DIV, -0.0, 1, NAN);
        gives(-0.0, Bench.DIV, 0.0, 1, NAN);
        gives(-0.0, Bench.DIV, -0.0, 1, NAN);
    }

    private static void infiniteByInfinite() {
        gives(INF, Bench.DIV, INF, 1, NAN);
        gives(INF, Bench.DIV, -INF, 1, NAN);
        gives(-INF, Bench.DIV, INF, 1, NAN);
        gives(-INF, Bench.DIV, -INF, 1, NAN);
    }

    private static void signsOfQuotients() {
        gives(10, Bench.DIV, 5, 0, 2);
        gives(10, Bench.DIV, -5, 0, -2);
        gives(-10, Bench.DIV, 5, 0, -2);
        gives(-10, Bench.DIV, -5, 0, 2);
    }

    /** By a zero too: there DIVIDED is not set. */
    private static void infiniteByOthers() {
        double[] others = {5, 0.0};
        for (double other : others) {
            gives(INF, Bench.DIV, other, 0, INF);
            gives(INF, Bench.DIV, -other, 0, -INF);
            gives(-INF, Bench.DIV, other, 0, -INF);
            gives(-INF, Bench.DIV, -other, 0, INF);
        }
    }

    private static void othersByInfinite() {
        double[] others = {5, 0.0, Double.MAX_VALUE};
        for (double other : others) {
            gives(other, Bench.DIV, INF, 0, 0.0);
            gives(other, Bench.DIV, -INF, 0, -0.0);
            gives(-other, Bench.DIV, INF, 0, -0.0);
            gives(-other, Bench.DIV, -INF, 0, 0.0);
        }
    }

    private static void zeroByOthers() {
        double[] others = {5, Double.MIN_NORMAL};
        for (double other : others) {
            gives(0.0, Bench.DIV, other, 0, 0.0);
            gives(0.0, Bench.DIV, -other, 0, -0.0);
            gives(-0.0, Bench.DIV, other, 0, -0.0);
            gives(-0.0, Bench.DIV, -other, 0, 0.0);
        }
    }

    private static void dividedByZero() {
        gives(5, Bench.DIV, 0.0, Bench.DIVIDED, INF);
        gives(5, Bench.DIV, -0.0, Bench.DIVIDED, -INF);
        gives(-5, Bench.DIV, 0.0, Bench.DIVIDED, -INF);
        gives(-5, Bench.DIV, -0.0, Bench.DIVIDED, INF);
        for (int rounding = 0; rounding < 4; rounding++) {
            givesWith(rounding, 5, Bench.DIV, 0.0, Bench.DIVIDED, INF);
        }
    }

    private static void exactQuotients() {
        bench().finite(false, 5, -1).finite(false, 3, -1).gives("equal bits", Bench.DIV, 0).is("equal bits", 4);
        // (2^64 - 2) / (2^64 - 1) is a little below 1 - 2^-64.
        bench().finite(false, 0, -2).finite(false, 0, -1).control(64, 2, 31).gives("nearly 1", Bench.DIV, Bench.INEXACT).top("up", 1, -1, -1);
        bench().finite(false, 0, -2).finite(false, 0, -1).control(64, 1, 31).gives("nearly 1", Bench.DIV, Bench.INEXACT).top("down", 1, -1, -2);
        bench().finite(false, 0, -1).whole(1).gives("by 1", Bench.DIV, 0).top("by 1", 1, 0, -1);
        bench().finite(false, 0, -1).whole(1).control(24, 0, 31).gives("by 1, 24 bits", Bench.DIV, Bench.INEXACT).is("by 1, 24 bits", 2);
        bench().finite(false, 16383, -1).finite(false, 16383, TOP).gives("the greatest ones", Bench.DIV, 0).top("the greatest ones", 1, 0, -1);
        bench().finite(false, -16382, TOP).finite(false, -16382, -1).control(64, 3, 31).gives("the least ones", Bench.DIV, Bench.INEXACT)
                .top("the least ones", 1, -1, TOP);
        bench().whole(1).finite(false, 16383, TOP).gives("1 / 2^16383", Bench.DIV, Bench.UNDERFLOW | Bench.INEXACT).is("1 / 2^16383", 0.0);
        bench().whole(1).finite(false, -16382, TOP).gives("1 / 2^-16382", Bench.DIV, 0).top("1 / 2^-16382", 1, 16382, TOP);
        for (long y : Wide.SIGNIFICANDS) {
            for (long x : Wide.SIGNIFICANDS) {
                BigInteger[] quotient = Wide.unsigned(y).shiftLeft(80).divideAndRemainder(Wide.unsigned(x));
                for (int rounding = 0; rounding < 4; rounding++) {
                    String what = Long.toHexString(y) + " / " + Long.toHexString(x) + ", rounding " + rounding;
                    Bench b = bench().finite(false, 0, y).finite(false, 0, x).control(64, rounding, 31);
                    b.s.operate(Bench.DIV, 0);
                    Wide.isRounded(b, what, quotient[0], quotient[1].signum() != 0, quotient[0].bitLength() - 81, rounding);
                }
            }
        }
    }
}
