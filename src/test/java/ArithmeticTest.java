/** Promise 3, operations 0 to 4 and 6: ADD, SUB, MUL, DIV, SQRT, SCALE, and rounding. */
public final class ArithmeticTest {
    private static final Checks checks = new Checks("ArithmeticTest");
    private static final long TOP = Bench.TOP;

    public static void main(String[] args) {
        additions();
        specialSums();
        zeroSums();
        products();
        quotients();
        roots();
        scales();
        ties();
        overflow();
        underflow();
        likeDoubles();
        checks.end();
    }

    private static Bench bench() {
        return new Bench(checks);
    }

    private static void additions() {
        bench().whole(5).whole(3).gives("5 + 3", Bench.ADD, 0).top("5 + 3", 1, 3, TOP).depth("5 + 3", 1);
        bench().whole(5).whole(3).gives("5 - 3", Bench.SUB, 0).top("5 - 3", 1, 1, TOP).depth("5 - 3", 1);
        bench().whole(3).whole(5).gives("3 - 5", Bench.SUB, 0).top("3 - 5", 5, 1, TOP);
        bench().whole(-3).whole(-5).gives("-3 + -5", Bench.ADD, 0).top("-3 + -5", 5, 3, TOP);
        bench().whole(9).whole(5).whole(3).gives("only two go", Bench.ADD, 0).at("what is below", 1, 1, 3, 9L << 60);
        // A real far below the last bit is seen by the rounding alone.
        bench().finite(false, 16383, TOP).finite(false, -16382, TOP).control(64, 2, 31)
                .gives("far apart, up", Bench.ADD, Bench.INEXACT).top("far apart, up", 1, 16383, TOP | 1);
        bench().finite(false, 16383, TOP).finite(true, -16382, TOP).control(64, 1, 31)
                .gives("far apart, down", Bench.ADD, Bench.INEXACT).top("far apart, down", 1, 16382, -1);
        bench().finite(false, 0, TOP).finite(true, -64, TOP).gives("1 - 2^-64", Bench.ADD, 0).top("1 - 2^-64", 1, -1, -1);
        bench().finite(false, 0, TOP).finite(true, -65, TOP).gives("1 - 2^-65", Bench.ADD, Bench.INEXACT).top("1 - 2^-65", 1, 0, TOP);
        bench().finite(false, 0, TOP).finite(true, -65, TOP | 1).gives("1 - (2^-65 and more)", Bench.ADD, Bench.INEXACT)
                .top("1 - (2^-65 and more)", 1, -1, -1);
        bench().finite(false, 0, -1).finite(false, -64, TOP).gives("a carry over all bits", Bench.ADD, Bench.INEXACT)
                .top("a carry over all bits", 1, 1, TOP);
        bench().finite(false, 0, TOP | 1).finite(true, 0, TOP).gives("what is left of nearly equal ones", Bench.ADD, 0)
                .top("what is left of nearly equal ones", 1, -63, TOP);
        // One zero: the sum is rounded like any other.
        bench().finite(false, 0, -1).zero(false).control(24, 0, 31).gives("2-e + 0 with 24 bits", Bench.ADD, Bench.INEXACT)
                .top("2-e + 0 with 24 bits", 1, 1, TOP);
        bench().zero(true).finite(true, 0, -1).control(53, 3, 31).gives("-0 + -(2-e) with 53 bits", Bench.ADD, Bench.INEXACT)
                .top("-0 + -(2-e) with 53 bits", 5, 0, -1L << 11);
        bench().zero(false).whole(7).gives("0 - 7", Bench.SUB, 0).top("0 - 7", 5, 2, 7L << 61);
    }

    private static void specialSums() {
        for (int operation = Bench.ADD; operation <= Bench.DIV; operation++) {
            bench().nan().whole(1).gives("NAN first, " + operation, operation, 0).top("NAN first", 3, 0, 0).depth("NAN first", 1);
            bench().whole(1).nan().gives("NAN last, " + operation, operation, 0).top("NAN last", 3, 0, 0);
            bench().infinite(false).nan().gives("infinite and NAN, " + operation, operation, 0).top("infinite and NAN", 3, 0, 0);
            bench().nan().zero(false).gives("NAN and zero, " + operation, operation, 0).top("NAN and zero", 3, 0, 0);
            bench().gives("two are missing, " + operation, operation, 1).depth("two are missing", 0);
            bench().whole(1).gives("one is missing, " + operation, operation, 1).depth("one is missing", 1).top("one is missing", 1, 0, TOP);
        }
        bench().infinite(false).infinite(true).gives("inf + -inf", Bench.ADD, 1).top("inf + -inf", 3, 0, 0);
        bench().infinite(true).infinite(true).gives("-inf + -inf", Bench.ADD, 0).top("-inf + -inf", 6, 0, 0);
        bench().infinite(true).infinite(true).gives("-inf - -inf", Bench.SUB, 1).top("-inf - -inf", 3, 0, 0);
        bench().infinite(true).infinite(false).gives("-inf - inf", Bench.SUB, 0).top("-inf - inf", 6, 0, 0);
        bench().whole(4).infinite(false).gives("4 - inf", Bench.SUB, 0).top("4 - inf", 6, 0, 0);
        bench().infinite(false).whole(4).gives("inf - 4", Bench.SUB, 0).top("inf - 4", 2, 0, 0);
        bench().zero(true).infinite(false).gives("-0 + inf", Bench.ADD, 0).top("-0 + inf", 2, 0, 0);
    }

    private static void zeroSums() {
        for (int rounding = 0; rounding < 4; rounding++) {
            int unlike = rounding == 1 ? 4 : 0;
            Bench b = bench().control(64, rounding, 31);
            String with = " with rounding " + rounding;
            b.zero(false).zero(false).gives("0 + 0", Bench.ADD, 0).top("0 + 0" + with, 0, 0, 0);
            b.zero(true).zero(true).gives("-0 + -0", Bench.ADD, 0).top("-0 + -0" + with, 4, 0, 0);
            b.zero(true).zero(false).gives("-0 + 0", Bench.ADD, 0).top("-0 + 0" + with, unlike, 0, 0);
            b.zero(false).zero(true).gives("0 - -0", Bench.SUB, 0).top("0 - -0" + with, 0, 0, 0);
            b.zero(true).zero(false).gives("-0 - 0", Bench.SUB, 0).top("-0 - 0" + with, 4, 0, 0);
            b.zero(true).zero(true).gives("-0 - -0", Bench.SUB, 0).top("-0 - -0" + with, unlike, 0, 0);
            b.whole(7).whole(7).gives("7 - 7", Bench.SUB, 0).top("7 - 7" + with, unlike, 0, 0);
            b.s.operate(Bench.DROP, 0);
            b.whole(-7).whole(7).gives("-7 + 7", Bench.ADD, 0).top("-7 + 7" + with, unlike, 0, 0);
        }
    }

    private static void products() {
        bench().whole(6).whole(7).gives("6 * 7", Bench.MUL, 0).top("6 * 7", 1, 5, 42L << 58).depth("6 * 7", 1);
        bench().whole(-6).whole(7).gives("-6 * 7", Bench.MUL, 0).top("-6 * 7", 5, 5, 42L << 58);
        bench().whole(-6).whole(-7).gives("-6 * -7", Bench.MUL, 0).top("-6 * -7", 1, 5, 42L << 58);
        bench().finite(false, 0, -1).finite(false, 0, -1).control(64, 3, 31).gives("all ones squared", Bench.MUL, Bench.INEXACT)
                .top("all ones squared", 1, 1, -2);
        bench().finite(false, 0, -1).finite(false, 0, -1).control(64, 2, 31).gives("all ones squared, up", Bench.MUL, Bench.INEXACT)
                .top("all ones squared, up", 1, 1, -1);
        bench().zero(false).infinite(true).gives("0 * -inf", Bench.MUL, 1).top("0 * -inf", 3, 0, 0);
        bench().infinite(true).zero(true).gives("-inf * -0", Bench.MUL, 1).top("-inf * -0", 3, 0, 0);
        bench().infinite(true).whole(-2).gives("-inf * -2", Bench.MUL, 0).top("-inf * -2", 2, 0, 0);
        bench().whole(2).infinite(true).gives("2 * -inf", Bench.MUL, 0).top("2 * -inf", 6, 0, 0);
        bench().infinite(true).infinite(false).gives("-inf * inf", Bench.MUL, 0).top("-inf * inf", 6, 0, 0);
        bench().zero(true).whole(2).gives("-0 * 2", Bench.MUL, 0).top("-0 * 2", 4, 0, 0);
        bench().whole(-2).zero(true).gives("-2 * -0", Bench.MUL, 0).top("-2 * -0", 0, 0, 0);
    }

    private static void quotients() {
        bench().whole(42).whole(7).gives("42 / 7", Bench.DIV, 0).top("42 / 7", 1, 2, 6L << 61).depth("42 / 7", 1);
        bench().whole(7).whole(-42).gives("7 / -42", Bench.DIV, Bench.INEXACT).top("7 / -42", 5, -3, 0xAAAAAAAAAAAAAAABL);
        bench().whole(1).finite(false, 0, -1).gives("1 / (2-e)", Bench.DIV, Bench.INEXACT).top("1 / (2-e)", 1, -1, TOP | 1);
        bench().zero(false).zero(true).gives("0 / -0", Bench.DIV, 1).top("0 / -0", 3, 0, 0);
        bench().infinite(false).infinite(true).gives("inf / -inf", Bench.DIV, 1).top("inf / -inf", 3, 0, 0);
        bench().infinite(false).zero(true).gives("inf / -0 does not divide", Bench.DIV, 0).top("inf / -0", 6, 0, 0);
        bench().infinite(true).whole(-3).gives("-inf / -3", Bench.DIV, 0).top("-inf / -3", 2, 0, 0);
        bench().whole(-3).infinite(false).gives("-3 / inf", Bench.DIV, 0).top("-3 / inf", 4, 0, 0);
        bench().zero(false).infinite(true).gives("0 / -inf", Bench.DIV, 0).top("0 / -inf", 4, 0, 0);
        bench().zero(true).whole(-3).gives("-0 / -3", Bench.DIV, 0).top("-0 / -3", 0, 0, 0);
        bench().whole(3).zero(true).gives("3 / -0", Bench.DIV, Bench.DIVIDED).top("3 / -0", 6, 0, 0);
        bench().whole(-3).zero(true).gives("-3 / -0", Bench.DIV, Bench.DIVIDED).top("-3 / -0", 2, 0, 0);
    }

    private static void roots() {
        bench().whole(9).whole(49).gives("root of 49", Bench.SQRT, 0).top("root of 49", 1, 2, 7L << 61).depth("root of 49", 2);
        bench().whole(2).gives("root of 2", Bench.SQRT, Bench.INEXACT).top("root of 2", 1, 0, 0xB504F333F9DE6484L);
        bench().whole(2).control(64, 2, 31).gives("root of 2, up", Bench.SQRT, Bench.INEXACT).top("root of 2, up", 1, 0, 0xB504F333F9DE6485L);
        bench().whole(2).control(24, 1, 31).gives("root of 2, 24 bits", Bench.SQRT, Bench.INEXACT).top("root of 2, 24 bits", 1, 0, 0xB504F30000000000L);
        bench().dbl(0.25).gives("root of 1/4", Bench.SQRT, 0).top("root of 1/4", 1, -1, TOP);
        bench().finite(false, -16381, TOP).gives("root of 2^-16381", Bench.SQRT, Bench.INEXACT).top("root of 2^-16381", 1, -8191, 0xB504F333F9DE6484L);
        bench().finite(false, 16383, -1).gives("root of the greatest", Bench.SQRT, Bench.INEXACT).top("root of the greatest", 1, 8191, -1);
        bench().zero(true).gives("root of -0", Bench.SQRT, 0).top("root of -0", 4, 0, 0);
        bench().zero(false).gives("root of 0", Bench.SQRT, 0).top("root of 0", 0, 0, 0);
        bench().nan().gives("root of NAN", Bench.SQRT, 0).top("root of NAN", 3, 0, 0);
        bench().whole(-4).gives("root of -4", Bench.SQRT, 1).top("root of -4", 3, 0, 0);
        bench().infinite(true).gives("root of -inf", Bench.SQRT, 1).top("root of -inf", 3, 0, 0);
        bench().infinite(false).gives("root of inf", Bench.SQRT, 0).top("root of inf", 2, 0, 0);
        bench().gives("root of nothing", Bench.SQRT, 1).depth("root of nothing", 0);
    }

    private static void scales() {
        bench().whole(4).whole(3).gives("3 * 2^4", Bench.SCALE, 0).top("3 * 2^4", 1, 5, 3L << 62).depth("3 * 2^4", 2).at("y stays", 1, 1, 2, TOP);
        bench().whole(-4).whole(-3).gives("-3 * 2^-4", Bench.SCALE, 0).top("-3 * 2^-4", 5, -3, 3L << 62).at("y stays", 1, 5, 2, TOP);
        bench().zero(true).whole(3).gives("3 * 2^-0", Bench.SCALE, 0).top("3 * 2^-0", 1, 1, 3L << 62);
        bench().whole(1).finite(false, 0, -1).control(53, 3, 31).gives("scaled and rounded", Bench.SCALE, Bench.INEXACT)
                .top("scaled and rounded", 1, 1, -1L << 11);
        bench().zero(false).finite(false, 0, -1).control(24, 2, 31).gives("scaled by nothing and rounded", Bench.SCALE, Bench.INEXACT)
                .top("scaled by nothing and rounded", 1, 1, TOP);
        bench().whole(32765).finite(false, -16382, TOP).gives("from end to end", Bench.SCALE, 0).top("from end to end", 1, 16383, TOP);
        bench().whole(40000).whole(1).gives("40000 is allowed", Bench.SCALE, Bench.OVERFLOW | Bench.INEXACT).top("40000 is allowed", 2, 0, 0);
        bench().whole(-40000).whole(-1).gives("-40000 is allowed", Bench.SCALE, Bench.UNDERFLOW | Bench.INEXACT).top("-40000 is allowed", 4, 0, 0);
        bench().whole(40001).whole(1).gives("40001 is not", Bench.SCALE, 1).top("40001 is not", 3, 0, 0).depth("40001 is not", 2);
        bench().whole(-40001).whole(1).gives("-40001 is not", Bench.SCALE, 1).top("-40001 is not", 3, 0, 0);
        bench().whole(1L << 40).whole(1).gives("2^40 is not", Bench.SCALE, 1).top("2^40 is not", 3, 0, 0);
        bench().finite(false, 16383, -1).whole(1).gives("the greatest is not", Bench.SCALE, 1).top("the greatest is not", 3, 0, 0);
        bench().dbl(2.5).whole(1).gives("2.5 is not whole", Bench.SCALE, 1).top("2.5 is not whole", 3, 0, 0).at("2.5 stays", 1, 1, 1, 5L << 61);
        bench().dbl(0.5).whole(1).gives("0.5 is not whole", Bench.SCALE, 1).top("0.5 is not whole", 3, 0, 0);
        bench().dbl(39999.5).zero(false).gives("39999.5 is not whole, x zero", Bench.SCALE, 1).top("39999.5 is not whole", 3, 0, 0);
        bench().infinite(true).zero(false).gives("infinite is not whole", Bench.SCALE, 1).top("infinite is not whole", 3, 0, 0);
        bench().whole(40001).infinite(false).gives("40001 is not, x infinite", Bench.SCALE, 1).top("40001 is not, x infinite", 3, 0, 0);
        bench().nan().whole(1).gives("NAN as y", Bench.SCALE, 0).top("NAN as y", 3, 0, 0).at("NAN as y", 1, 3, 0, 0);
        bench().dbl(2.5).nan().gives("NAN as x", Bench.SCALE, 0).top("NAN as x", 3, 0, 0);
        bench().whole(5).zero(true).gives("-0 scaled", Bench.SCALE, 0).top("-0 scaled", 4, 0, 0);
        bench().whole(-5).infinite(true).gives("-inf scaled", Bench.SCALE, 0).top("-inf scaled", 6, 0, 0);
        bench().whole(5).gives("nothing to scale by", Bench.SCALE, 1).depth("nothing to scale by", 1);
    }

    /** 1 + h, where h is half of the last bit, lies in the middle; so does 1 + 3h. */
    private static void ties() {
        int[] precisions = {24, 53, 64};
        for (int precision : precisions) {
            long last = 1L << (64 - precision);
            tie(precision, TOP, new long[] {TOP, TOP, TOP | last, TOP});
            tie(precision, TOP | last, new long[] {TOP | 2 * last, TOP | last, TOP | 2 * last, TOP | last});
        }
    }

    private static void tie(int precision, long bits, long[] due) {
        for (int rounding = 0; rounding < 4; rounding++) {
            String what = "a tie with " + precision + " bits, rounding " + rounding;
            bench().finite(false, 0, bits).finite(false, -precision, TOP).control(precision, rounding, 31)
                    .gives(what, Bench.ADD, Bench.INEXACT).top(what, 1, 0, due[rounding]);
            int mirrored = rounding == 1 ? 2 : rounding == 2 ? 1 : rounding;
            bench().finite(true, 0, bits).finite(true, -precision, TOP).control(precision, mirrored, 31)
                    .gives(what + ", negative", Bench.ADD, Bench.INEXACT).top(what + ", negative", 5, 0, due[rounding]);
        }
        bench().finite(false, 0, bits).finite(false, -precision, TOP | 1).control(precision, 0, 31)
                .gives("above a tie", Bench.ADD, Bench.INEXACT).top("above a tie", 1, 0, bits + (1L << (64 - precision)));
    }

    private static void overflow() {
        int flags = Bench.OVERFLOW | Bench.INEXACT;
        int[] precisions = {24, 53, 64};
        for (int precision : precisions) {
            long greatest = -1L << (64 - precision);
            for (int rounding = 0; rounding < 4; rounding++) {
                String what = "overflow with " + precision + " bits, rounding " + rounding;
                boolean stays = rounding == 1 || rounding == 3;
                bench().finite(false, 16383, TOP).whole(2).control(precision, rounding, 31).gives(what, Bench.MUL, flags)
                        .top(what, stays ? 1 : 2, stays ? 16383 : 0, stays ? greatest : 0);
                stays = rounding == 2 || rounding == 3;
                bench().finite(true, 16383, TOP).whole(2).control(precision, rounding, 31).gives(what + ", negative", Bench.MUL, flags)
                        .top(what + ", negative", stays ? 5 : 6, stays ? 16383 : 0, stays ? greatest : 0);
            }
            // Only the rounding takes it over the limit.
            String what = "rounded over the limit with " + precision + " bits";
            bench().finite(false, 16383, greatest).finite(false, 16383 - precision, TOP).control(precision, 0, 31)
                    .gives(what, Bench.ADD, flags).top(what, 2, 0, 0);
            bench().finite(false, 16383, greatest).finite(false, 16383 - precision, TOP).control(precision, 1, 31)
                    .gives(what + ", down", Bench.ADD, Bench.INEXACT).top(what + ", down", 1, 16383, greatest);
        }
        bench().finite(false, 16383, TOP).dbl(0.25).gives("a quotient", Bench.DIV, flags).top("a quotient", 2, 0, 0);
        bench().finite(false, 16382, TOP).whole(2).gives("the highest exponent", Bench.MUL, 0).top("the highest exponent", 1, 16383, TOP);
    }

    private static void underflow() {
        int flags = Bench.UNDERFLOW | Bench.INEXACT;
        for (int rounding = 0; rounding < 4; rounding++) {
            String what = "underflow, rounding " + rounding;
            bench().finite(false, -16382, TOP).whole(2).control(64, rounding, 31).gives(what, Bench.DIV, flags).top(what, 0, 0, 0);
            bench().finite(true, -16382, TOP).dbl(0.5).control(64, rounding, 31).gives(what, Bench.MUL, flags).top(what, 4, 0, 0);
            bench().finite(true, -16382, TOP | 1).finite(false, -16382, TOP).control(64, rounding, 31)
                    .gives(what + ", a difference", Bench.ADD, flags).top(what + ", a difference", 4, 0, 0);
        }
        bench().finite(false, -16381, TOP).whole(2).gives("the lowest exponent", Bench.DIV, 0).top("the lowest exponent", 1, -16382, TOP);
        // Rounded up, it has the lowest exponent after all.
        bench().whole(-1).finite(false, -16382, -1).control(24, 0, 31).gives("rounded over the lower limit", Bench.SCALE, Bench.INEXACT)
                .top("rounded over the lower limit", 1, -16382, TOP);
        bench().whole(-1).finite(false, -16382, -1).control(24, 3, 31).gives("not rounded over it", Bench.SCALE, flags)
                .top("not rounded over it", 0, 0, 0);
    }

    /** With 53 bits, to the nearest, and far from the limits it is Java's double. */
    private static void likeDoubles() {
        double[] values = {1, 3, 10, 0.1, 1e15 + 0.3, 1 / 3.0, 12345.678, 9007199254740991.0, 1e-17, 2.5};
        for (double y : values) {
            for (double x : values) {
                likeDouble(y, x, Bench.ADD, y + x);
                likeDouble(y, x, Bench.SUB, y - x);
                likeDouble(y, x, Bench.MUL, y * x);
                likeDouble(y, x, Bench.DIV, y / x);
            }
            likeDouble(1, y, Bench.SQRT, StrictMath.sqrt(y));
        }
    }

    private static void likeDouble(double y, double x, int operation, double due) {
        Bench b = bench().control(53, 0, 31).dbl(y).dbl(x);
        b.s.operate(operation, 0);
        b.stores("operation " + operation + " of " + y + " and " + x, Bench.DOUBLE, 0, Double.doubleToRawLongBits(due));
    }
}
