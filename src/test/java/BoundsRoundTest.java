/** Boundary cases, sentence by sentence: ROUND. */
public final class BoundsRoundTest {
    private static final Checks checks = new Checks("BoundsRoundTest");
    private static final long TOP = Bench.TOP;
    private static final int[] PRECISIONS = {24, 53, 64};
    private static final int OVER = Bench.OVERFLOW | Bench.INEXACT;
    private static final int UNDER = Bench.UNDERFLOW | Bench.INEXACT;

    public static void main(String[] args) {
        checks.sentence("ROUND", "the two nearest numbers that have P bits, [..] on either side of it", BoundsRoundTest::neighbours);
        checks.sentence("ROUND", "counted from the highest 1", BoundsRoundTest::countedFromTheHighest);
        checks.sentence("ROUND", "(E without limits)", BoundsRoundTest::withoutLimits);
        checks.sentence("ROUND", "with rounding 0 the nearer one", BoundsRoundTest::nearer);
        checks.sentence("ROUND", "of two as near the one whose last bit is 0", BoundsRoundTest::asNear);
        checks.sentence("ROUND", "1 the one below", () -> directed(1));
        checks.sentence("ROUND", "2 the one above", () -> directed(2));
        checks.sentence("ROUND", "3 the one nearer to 0", () -> directed(3));
        checks.sentence("ROUND", "When it was not such a number itself: INEXACT.", BoundsRoundTest::inexact);
        checks.sentence("ROUND", "When E is above 16383 then: OVERFLOW and INEXACT", BoundsRoundTest::tooLarge);
        checks.sentence("ROUND", "and it is infinite", BoundsRoundTest::becomesInfinite);
        checks.sentence("ROUND", "or, where the rounding is 3 [..] the greatest number with P bits, with its sign", () -> {
            greatest(false, 3);
            greatest(true, 3);
        });
        checks.sentence("ROUND", "or 1 for one not negative", () -> greatest(false, 1));
        checks.sentence("ROUND", "or 2 for a negative one", () -> greatest(true, 2));
        checks.sentence("ROUND", "When E is below -16382: UNDERFLOW and INEXACT", BoundsRoundTest::tooSmall);
        checks.sentence("ROUND", "and it is zero with its sign", BoundsRoundTest::becomesZero);
        checks.end();
    }

    private static Bench bench() {
        return new Bench(checks);
    }

    /** The rounding that makes of a negative number what the other makes of a positive one. */
    private static int mirrored(int rounding) {
        return rounding == 1 ? 2 : rounding == 2 ? 1 : rounding;
    }

    /** Adds a tail below the last bit to 1.bits, and the same for the negative ones. */
    private static void sums(String what, int precision, int rounding, long bits, int tailExponent, long tail, long due) {
        String text = what + ", P " + precision + ", rounding " + rounding;
        bench().finite(false, 0, bits).finite(false, tailExponent, tail).control(precision, rounding, 31)
                .gives(text, Bench.ADD, Bench.INEXACT).top(text, 1, 0, due);
        bench().finite(true, 0, bits).finite(true, tailExponent, tail).control(precision, mirrored(rounding), 31)
                .gives(text + ", negative", Bench.ADD, Bench.INEXACT).top(text + ", negative", 5, 0, due);
    }

    private static void neighbours() {
        for (int precision : PRECISIONS) {
            long last = 1L << (64 - precision);
            for (int rounding = 0; rounding < 4; rounding++) {
                boolean isUp = rounding == 2;
                sums("a quarter", precision, rounding, TOP, -precision - 1, TOP, isUp ? TOP + last : TOP);
                boolean isUpToo = rounding == 2 || rounding == 0;
                sums("three quarters", precision, rounding, TOP, -precision, 3L << 62, isUpToo ? TOP + last : TOP);
                sums("far below", precision, rounding, TOP, -16382, TOP, isUp ? TOP + last : TOP);
            }
        }
    }

    private static void countedFromTheHighest() {
        for (int precision : PRECISIONS) {
            long last = 1L << (64 - precision);
            // One bit more on the left is one less on the right.
            bench().finite(false, 0, -last).finite(false, 1 - precision, 3L << 62).control(precision, 3, 31)
                    .gives("a carry", Bench.ADD, Bench.INEXACT).top("a carry, P " + precision, 1, 1, TOP);
            // And the other way: what 1 loses on the left it has on the right.
            bench().whole(1).finite(false, -precision, TOP).control(precision, 0, 31)
                    .gives("1 - half of its last bit", Bench.SUB, 0).top("just below 1, P " + precision, 1, -1, -last);
            bench().whole(1).finite(false, -precision, 3L << 62).control(precision, 1, 31)
                    .gives("1 - three quarters of it", Bench.SUB, Bench.INEXACT).top("below that, P " + precision, 1, -1, -2 * last);
            bench().finite(false, 0, -last).finite(false, -precision, TOP).control(precision, 2, 31)
                    .gives("rounded to a power of 2", Bench.ADD, Bench.INEXACT).top("a power of 2, P " + precision, 1, 1, TOP);
        }
    }

    /** The limits of E are looked at behind the rounding, not before it. */
    private static void withoutLimits() {
        // (2^63 + 1) * (2^64 - 2) is 2^127 - 2: the nearest number is the next power of 2.
        limit("just below 2^16384, to the nearest", 16383, 0, 0, OVER, 2, 0, 0);
        limit("just below 2^16384, above", 16383, 0, 2, OVER, 2, 0, 0);
        limit("just below 2^16384, below", 16383, 0, 1, Bench.INEXACT, 1, 16383, -1);
        limit("just below 2^16384, nearer to 0", 16383, 0, 3, Bench.INEXACT, 1, 16383, -1);
        limit("just below 2^-16382, to the nearest", -16382, -1, 0, Bench.INEXACT, 1, -16382, TOP);
        limit("just below 2^-16382, above", -16382, -1, 2, Bench.INEXACT, 1, -16382, TOP);
        limit("just below 2^-16382, below", -16382, -1, 1, UNDER, 0, 0, 0);
        limit("just below 2^-16382, nearer to 0", -16382, -1, 3, UNDER, 0, 0, 0);
        bench().finite(false, 16383, -1).zero(false).control(24, 0, 31).gives("rounded to 24 bits", Bench.ADD, OVER).top("it is above", 2, 0, 0);
        bench().finite(false, 16383, -1).zero(false).control(24, 3, 31).gives("cut to 24 bits", Bench.ADD, Bench.INEXACT)
                .top("it is not above", 1, 16383, -1L << 40);
        bench().whole(-1).finite(true, -16382, -1).control(53, 0, 31).gives("rounded to 53 bits", Bench.SCALE, Bench.INEXACT)
                .top("it is not below", 5, -16382, TOP);
        bench().whole(-1).finite(true, -16382, -1).control(53, 2, 31).gives("cut to 53 bits", Bench.SCALE, UNDER).top("it is below", 4, 0, 0);
    }

    private static void limit(String what, int yExponent, int xExponent, int rounding, int flags, int kind, int exponent, long significand) {
        bench().finite(false, yExponent, TOP | 1).finite(false, xExponent, -2).control(64, rounding, 31)
                .gives(what, Bench.MUL, flags).top(what, kind, exponent, significand);
    }

    private static void nearer() {
        for (int precision : PRECISIONS) {
            long last = 1L << (64 - precision);
            sums("just below the middle", precision, 0, TOP + last, -precision - 1, -1, TOP + last);
            sums("just above the middle", precision, 0, TOP, -precision, TOP | 1, TOP + last);
        }
        // What is beyond 64 bits is not rounded twice: 1 + 2^-24 lies in the middle, this does not.
        bench().finite(false, 0, TOP | 1L << 39).finite(false, -16382, TOP).control(24, 0, 31)
                .gives("above a middle by nearly nothing", Bench.ADD, Bench.INEXACT).top("above a middle", 1, 0, TOP | 1L << 40);
        bench().finite(false, 0, TOP | 3L << 39).finite(false, -16382, TOP).control(24, 0, 31)
                .gives("below a middle by nearly nothing", Bench.SUB, Bench.INEXACT).top("below a middle", 1, 0, TOP | 1L << 40);
        bench().finite(false, 0, TOP | 1L << 10).finite(false, -200, TOP).control(53, 0, 31)
                .gives("above a middle of 53 bits", Bench.ADD, Bench.INEXACT).top("above a middle of 53 bits", 1, 0, TOP | 1L << 11);
    }

    private static void asNear() {
        for (int precision : PRECISIONS) {
            long last = 1L << (64 - precision);
            sums("last bit 0 below", precision, 0, TOP, -precision, TOP, TOP);
            sums("last bit 0 above", precision, 0, TOP + last, -precision, TOP, TOP + 2 * last);
            sums("last bit 0 below, further up", precision, 0, TOP + 2 * last, -precision, TOP, TOP + 2 * last);
            bench().finite(false, 0, -last).finite(false, -precision, TOP).control(precision, 0, 31)
                    .gives("all ones", Bench.ADD, Bench.INEXACT).top("all ones and a half, P " + precision, 1, 1, TOP);
        }
    }

    /** The roundings 1, 2 and 3 take no notice of the middle. */
    private static void directed(int rounding) {
        for (int precision : PRECISIONS) {
            long last = 1L << (64 - precision);
            long positive = rounding == 2 ? TOP + last : TOP;
            long negative = rounding == 1 ? TOP + last : TOP;
            int[] exponents = {-16382, -precision - 1, -precision, -precision};
            long[] tails = {TOP, -1, TOP, -1};
            for (int n = 0; n < 4; n++) {
                String what = "tail " + n + ", P " + precision;
                bench().finite(false, 0, TOP).finite(false, exponents[n], tails[n]).control(precision, rounding, 31)
                        .gives(what, Bench.ADD, Bench.INEXACT).top(what, 1, 0, positive);
                bench().finite(true, 0, TOP).finite(true, exponents[n], tails[n]).control(precision, rounding, 31)
                        .gives(what + ", negative", Bench.ADD, Bench.INEXACT).top(what + ", negative", 5, 0, negative);
            }
            bench().whole(1).finite(false, -16382, TOP).control(precision, rounding, 31).gives("just below 1", Bench.SUB, Bench.INEXACT)
                    .top("just below 1, P " + precision, 1, rounding == 2 ? 0 : -1, rounding == 2 ? TOP : -last);
            bench().whole(-1).finite(false, -16382, TOP).control(precision, rounding, 31).gives("just above -1", Bench.ADD, Bench.INEXACT)
                    .top("just above -1, P " + precision, 5, rounding == 1 ? 0 : -1, rounding == 1 ? TOP : -last);
        }
    }

    private static void inexact() {
        for (int precision : PRECISIONS) {
            long last = 1L << (64 - precision);
            for (int rounding = 0; rounding < 4; rounding++) {
                String what = "P " + precision + ", rounding " + rounding;
                bench().finite(false, 0, -last).zero(false).control(precision, rounding, 31)
                        .gives("just so many bits, " + what, Bench.ADD, 0).top("just so many bits, " + what, 1, 0, -last);
                bench().finite(false, 0, TOP).finite(false, -precision, TOP).control(precision, rounding, 31)
                        .gives("one bit too many, " + what, Bench.ADD, Bench.INEXACT);
                bench().finite(false, 0, TOP).finite(false, -16382, TOP).control(precision, rounding, 31)
                        .gives("a bit far below, " + what, Bench.ADD, Bench.INEXACT);
                bench().finite(false, 0, TOP).finite(false, -16382, TOP).control(precision, rounding, 31)
                        .gives("a bit less far below, " + what, Bench.SUB, Bench.INEXACT);
            }
        }
        // Nothing of an earlier number is left.
        bench().whole(1).whole(3).gives("1 / 3", Bench.DIV, Bench.INEXACT).zero(false).gives("1 / 3 + 0", Bench.ADD, 0);
        bench().whole(1).whole(1).whole(3).gives("1 / 3", Bench.DIV, Bench.INEXACT).gives("twice that", Bench.SCALE, 0);
        bench().whole(1L << 32).whole(1L << 31).gives("an exact product", Bench.MUL, 0);
        bench().whole((1L << 32) + 1).whole((1L << 32) + 1).gives("a product of 65 bits", Bench.MUL, Bench.INEXACT);
        bench().whole(3L << 40).whole(3).gives("an exact quotient", Bench.DIV, 0);
        bench().whole((1L << 32) - 1).whole((1L << 32) - 1).gives("a product", Bench.MUL, 0).gives("an exact root", Bench.SQRT, 0)
                .is("an exact root", (1L << 32) - 1);
    }

    private static void tooLarge() {
        for (int precision : PRECISIONS) {
            long greatest = -1L << (64 - precision);
            for (int rounding = 0; rounding < 4; rounding++) {
                for (int sign = 0; sign < 2; sign++) {
                    String what = "P " + precision + ", rounding " + rounding + ", sign " + sign;
                    bench().finite(sign == 1, 16383, greatest).whole(1).control(precision, rounding, 31)
                            .gives("the greatest is not above, " + what, Bench.MUL, 0).top(what, 1 + 4 * sign, 16383, greatest);
                    // 2^16384 has but one bit: it is INEXACT because it is too large.
                    bench().finite(sign == 1, 16383, TOP).whole(2).control(precision, rounding, 31)
                            .gives("2^16384 is, " + what, Bench.MUL, OVER);
                }
            }
        }
        bench().finite(false, 16383, TOP).finite(false, 16383, TOP).gives("a sum", Bench.ADD, OVER);
        bench().finite(false, 16383, TOP).finite(true, 16383, TOP).gives("a difference", Bench.SUB, OVER);
        bench().finite(false, 16383, -1).finite(false, 16383, -1).gives("the greatest product", Bench.MUL, OVER);
        bench().finite(false, 16383, -1).finite(false, -16382, TOP).gives("the greatest quotient", Bench.DIV, OVER);
        bench().whole(1).finite(false, 16383, TOP).gives("a scaled one", Bench.SCALE, OVER);
    }

    private static void becomesInfinite() {
        for (int precision : PRECISIONS) {
            for (int rounding = 0; rounding < 3; rounding += 2) {
                bench().finite(false, 16383, TOP).whole(2).control(precision, rounding, 31).gives("2^16384", Bench.MUL, OVER)
                        .is("2^16384, rounding " + rounding, Double.POSITIVE_INFINITY);
                bench().finite(true, 16383, TOP).whole(2).control(precision, mirrored(rounding), 31).gives("-2^16384", Bench.MUL, OVER)
                        .is("-2^16384, rounding " + mirrored(rounding), Double.NEGATIVE_INFINITY);
            }
        }
    }

    private static void greatest(boolean negative, int rounding) {
        for (int precision : PRECISIONS) {
            String what = "P " + precision + (negative ? ", negative" : "");
            bench().finite(negative, 16383, TOP).whole(2).control(precision, rounding, 31).gives(what, Bench.MUL, OVER)
                    .top(what, negative ? 5 : 1, 16383, -1L << (64 - precision));
            bench().finite(negative, 16383, -1).finite(false, 16383, -1).control(precision, rounding, 31).gives(what, Bench.MUL, OVER)
                    .top(what + ", far above", negative ? 5 : 1, 16383, -1L << (64 - precision));
        }
    }

    private static void tooSmall() {
        for (int precision : PRECISIONS) {
            for (int rounding = 0; rounding < 4; rounding++) {
                for (int sign = 0; sign < 2; sign++) {
                    String what = "P " + precision + ", rounding " + rounding + ", sign " + sign;
                    bench().finite(sign == 1, -16382, TOP).whole(1).control(precision, rounding, 31)
                            .gives("the least is not below, " + what, Bench.MUL, 0).top(what, 1 + 4 * sign, -16382, TOP);
                    // 2^-16383 has but one bit: it is INEXACT because it is too small.
                    bench().finite(sign == 1, -16382, TOP).dbl(0.5).control(precision, rounding, 31)
                            .gives("2^-16383 is, " + what, Bench.MUL, UNDER);
                }
            }
        }
        bench().finite(false, -16382, TOP | 1).finite(true, -16382, TOP).gives("a sum", Bench.ADD, UNDER);
        bench().finite(false, -16382, TOP | 1).finite(false, -16382, TOP).gives("a difference", Bench.SUB, UNDER);
        bench().finite(false, -16382, TOP).finite(false, -16382, TOP).gives("the least product", Bench.MUL, UNDER);
        bench().finite(false, -16382, TOP).finite(false, 16383, -1).gives("the least quotient", Bench.DIV, UNDER);
        bench().whole(-1).finite(false, -16382, TOP).gives("a scaled one", Bench.SCALE, UNDER);
    }

    /** Even where the rounding is to the one that is farther from 0. */
    private static void becomesZero() {
        for (int rounding = 0; rounding < 4; rounding++) {
            bench().finite(false, -16382, 3L << 62).whole(2).control(64, rounding, 31).gives("3 * 2^-16384", Bench.DIV, UNDER)
                    .is("3 * 2^-16384, rounding " + rounding, 0.0);
            bench().finite(true, -16382, 3L << 62).whole(2).control(64, rounding, 31).gives("-3 * 2^-16384", Bench.DIV, UNDER)
                    .is("-3 * 2^-16384, rounding " + rounding, -0.0);
            bench().finite(false, -16382, TOP).finite(false, -16382, TOP | 1).control(64, rounding, 31).gives("a difference", Bench.SUB, UNDER)
                    .is("a negative difference, rounding " + rounding, -0.0);
        }
    }
}
