import java.math.BigInteger;
import java.util.function.Supplier;

/** Boundary cases, sentence by sentence: OPERATIONS with too few or too many, and 4 to 15. */
public final class BoundsOperationsTest {
    private static final Checks checks = new Checks("BoundsOperationsTest");
    private static final long TOP = Bench.TOP;
    private static final double INF = Double.POSITIVE_INFINITY;
    private static final double NAN = Double.NaN;

    public static void main(String[] args) {
        checks.sentence("OPERATIONS", "with too few on the stack: INVALID, and nothing else happens", BoundsOperationsTest::tooFew);
        checks.sentence("OPERATIONS", "Where something is pushed on a full stack: INVALID, and nothing else happens.", BoundsOperationsTest::tooMany);
        checks.sentence("OPERATIONS, SQRT", "a zero stays", BoundsOperationsTest::rootOfZero);
        checks.sentence("OPERATIONS, SQRT", "NAN stays", () -> one(Bench.SQRT, NAN, 0, NAN));
        checks.sentence("OPERATIONS, SQRT", "negative: INVALID, NAN", BoundsOperationsTest::rootOfNegative);
        checks.sentence("OPERATIONS, SQRT", "infinite stays", () -> one(Bench.SQRT, INF, 0, INF));
        checks.sentence("OPERATIONS, SQRT", "else the exact root, rounded", BoundsOperationsTest::exactRoots);
        checks.sentence("OPERATIONS, INTEGER", "a finite x becomes the whole number that the rounding says", BoundsOperationsTest::integers);
        checks.sentence("OPERATIONS, INTEGER", "(INEXACT when it was none)", BoundsOperationsTest::wholeOrNone);
        checks.sentence("OPERATIONS, INTEGER", "a zero with its sign when that is 0", BoundsOperationsTest::integerZero);
        checks.sentence("OPERATIONS, INTEGER", "others stay", BoundsOperationsTest::integerOfOthers);
        checks.sentence("OPERATIONS, INTEGER", "(P has no part in it.)", BoundsOperationsTest::integerWithoutP);
        checks.sentence("OPERATIONS, SCALE", "x times 2 to the y", BoundsOperationsTest::scales);
        checks.sentence("OPERATIONS, SCALE", "NAN when one is", BoundsOperationsTest::scaleOfNan);
        checks.sentence("OPERATIONS, SCALE", "y must be a whole number", BoundsOperationsTest::scaleByFractions);
        checks.sentence("OPERATIONS, SCALE", "from -40000 to 40000", BoundsOperationsTest::scaleByLimits);
        checks.sentence("OPERATIONS, SCALE", "or a zero", BoundsOperationsTest::scaleByZero);
        checks.sentence("OPERATIONS, SCALE", "otherwise INVALID, NAN", BoundsOperationsTest::scaleOtherwise);
        checks.sentence("OPERATIONS, SCALE", "y stays below the result", BoundsOperationsTest::scaleKeepsY);
        checks.sentence("OPERATIONS, SCALE", "the result is rounded (to P)", BoundsOperationsTest::scaleRounds);
        checks.sentence("OPERATIONS, SCALE", "zero and infinite ones stay", BoundsOperationsTest::scaleOfOthers);
        checks.sentence("OPERATIONS, EXTRACT", "in its place its exponent, and above it x with the exponent 0", BoundsOperationsTest::extracts);
        checks.sentence("OPERATIONS, EXTRACT", "(two reals in place of one; exact, not rounded)", BoundsOperationsTest::extractIsExact);
        checks.sentence("OPERATIONS, EXTRACT", "x of another kind [..] INVALID, and nothing else happens", BoundsOperationsTest::extractOfOthers);
        checks.sentence("OPERATIONS, EXTRACT", "or no room: INVALID, and nothing else happens", BoundsOperationsTest::extractWithoutRoom);
        checks.sentence("OPERATIONS, ABSOLUTE", "not negative", BoundsOperationsTest::absolutes);
        checks.sentence("OPERATIONS, NEGATE", "the other sign", BoundsOperationsTest::negatives);
        checks.sentence("OPERATIONS, ABSOLUTE and NEGATE", "(NAN stays.)", BoundsOperationsTest::signOfNan);
        checks.sentence("OPERATIONS, EXCHANGE", "ST0 and STi", BoundsOperationsTest::exchanges);
        checks.sentence("OPERATIONS, COPY", "STi is pushed", BoundsOperationsTest::copies);
        checks.sentence("OPERATIONS, DROP", "x goes", BoundsOperationsTest::drops);
        checks.sentence("OPERATIONS, COMPARE", "0 when x is greater than y", BoundsOperationsTest::greater);
        checks.sentence("OPERATIONS, COMPARE", "1 less", BoundsOperationsTest::less);
        checks.sentence("OPERATIONS, COMPARE", "2 equal", BoundsOperationsTest::equal);
        checks.sentence("OPERATIONS, COMPARE", "(zeros are)", BoundsOperationsTest::equalZeros);
        checks.sentence("OPERATIONS, COMPARE", "3 when one is NAN (INVALID, too)", BoundsOperationsTest::comparedNan);
        checks.sentence("OPERATIONS, ONE", "1 is pushed", () -> pushed(Bench.ONE, 1));
        checks.sentence("OPERATIONS, ZERO", "a zero is pushed", () -> pushed(Bench.ZERO, 0.0));
        checks.end();
    }

    private static Bench bench() {
        return new Bench(checks);
    }

    /** An operation on x alone, with another real below that must stay. */
    private static void one(int operation, double x, int flags, double due) {
        one(operation, x, 0, flags, due);
    }

    private static void one(int operation, double x, int rounding, int flags, double due) {
        String what = "operation " + operation + " of " + x + ", rounding " + rounding;
        Bench b = bench().control(64, rounding, 31).whole(77).dbl(x).gives(what, operation, flags).is(what, due);
        b.depth(what, 2).is(what, 1, 77);
        checks.due(what + ": flags()", b.s.flags(), flags);
    }

    /** A bench whose condition is 1, so that one that is set anew is seen. */
    private static Bench compared() {
        Bench b = bench().whole(1).whole(0);
        b.s.operate(Bench.COMPARE, 0);
        b.s.operate(Bench.DROP, 0);
        b.s.operate(Bench.DROP, 0);
        return b;
    }

    private static Bench deep(int depth) {
        Bench b = compared();
        for (int n = 1; n <= depth; n++) {
            b.whole(n);
        }
        return b;
    }

    private static void tooFew() {
        int[] needed = {2, 2, 2, 2, 1, 1, 2, 1, 1, 1, 1, 1, 1, 2};
        for (int operation = 0; operation <= Bench.COMPARE; operation++) {
            for (int depth = 0; depth < needed[operation]; depth++) {
                doesNothing("operation " + operation + " with " + depth, deep(depth), operation, 0);
            }
        }
        for (int i = 1; i < 8; i++) {
            doesNothing("EXCHANGE " + i + " with " + i, deep(i), Bench.EXCHANGE, i);
            doesNothing("COPY " + i + " with " + i, deep(i), Bench.COPY, i);
            checks.due("EXCHANGE " + i + " with one more", deep(i + 1).s.operate(Bench.EXCHANGE, i), 0);
        }
        for (int i = 0; i < 7; i++) {
            checks.due("COPY " + i + " with one more", deep(i + 1).s.operate(Bench.COPY, i), 0);
        }
        int[] twos = {Bench.ADD, Bench.SUB, Bench.MUL, Bench.DIV, Bench.SCALE, Bench.COMPARE};
        for (int operation : twos) {
            checks.due("operation " + operation + " with just two", deep(2).s.operate(operation, 0), 0);
        }
    }

    private static void tooMany() {
        doesNothing("ONE", deep(8), Bench.ONE, 0);
        doesNothing("ZERO", deep(8), Bench.ZERO, 0);
        doesNothing("EXTRACT", deep(8), Bench.EXTRACT, 0);
        for (int i = 0; i < 8; i++) {
            doesNothing("COPY " + i, deep(8), Bench.COPY, i);
        }
        StackReal loading = deep(8).s;
        String before = Seen.butFlagsAndTime(loading);
        for (int form = 0; form < 4; form++) {
            checks.due("load, form " + form, loading.load(7, form), Bench.INVALID);
        }
        checks.due("what is seen after loads", Seen.butFlagsAndTime(loading), before);
        checks.due("ONE with room for one", deep(7).s.operate(Bench.ONE, 0), 0);
        checks.due("ZERO with room for one", deep(7).s.operate(Bench.ZERO, 0), 0);
        checks.due("COPY with room for one", deep(7).s.operate(Bench.COPY, 6), 0);
        checks.due("load with room for one", deep(7).s.load(0, 0), 0);
        checks.due("EXCHANGE needs no room", deep(8).s.operate(Bench.EXCHANGE, 7), 0);
        checks.due("INTEGER needs no room", deep(8).s.operate(Bench.INTEGER, 0), 0);
    }

    /** INVALID alone; of the rest only the busy time changes. */
    private static void doesNothing(String what, Bench b, int operation, int i) {
        StackReal s = b.s;
        s.await();
        s.clear();
        String before = Seen.butFlagsAndTime(s);
        checks.due(what, s.operate(operation, i), Bench.INVALID);
        checks.due(what + ": what is seen", Seen.butFlagsAndTime(s), before);
        checks.due(what + ": flags()", s.flags(), Bench.INVALID);
    }

    private static void rootOfZero() {
        for (int rounding = 0; rounding < 4; rounding++) {
            one(Bench.SQRT, 0.0, rounding, 0, 0.0);
            one(Bench.SQRT, -0.0, rounding, 0, -0.0);
        }
    }

    private static void rootOfNegative() {
        one(Bench.SQRT, -4, 1, NAN);
        one(Bench.SQRT, -INF, 1, NAN);
        bench().finite(true, -16382, TOP).gives("the least one", Bench.SQRT, 1).is("the least one", NAN);
    }

    private static void exactRoots() {
        one(Bench.SQRT, 1, 0, 1);
        one(Bench.SQRT, 2.25, 0, 1.5);
        bench().finite(false, -16382, TOP).gives("2^-16382", Bench.SQRT, 0).top("2^-8191", 1, -8191, TOP);
        bench().finite(false, 16382, TOP).gives("2^16382", Bench.SQRT, 0).top("2^8191", 1, 8191, TOP);
        for (int rounding = 0; rounding < 4; rounding++) {
            // It is 2^8192 less a little more than half of a last bit.
            boolean isUp = rounding == 2;
            bench().finite(false, 16383, -1).control(64, rounding, 31).gives("the greatest", Bench.SQRT, Bench.INEXACT)
                    .top("the greatest, rounding " + rounding, 1, isUp ? 8192 : 8191, isUp ? TOP : -1);
            bench().finite(false, 0, TOP | 1).control(64, rounding, 31).gives("1 + e", Bench.SQRT, Bench.INEXACT)
                    .top("1 + e, rounding " + rounding, 1, 0, isUp ? TOP | 1 : TOP);
        }
        bench().finite(false, 63, (1L << 32) * -2 + 1).control(64, 0, 31).gives("(2^32 - 1)^2", Bench.SQRT, 0).is("2^32 - 1", (1L << 32) - 1);
        bench().finite(false, 63, (1L << 32) * -2 + 1).control(24, 0, 31).gives("with 24 bits", Bench.SQRT, Bench.INEXACT).is("2^32", 1L << 32);
        bench().finite(false, 63, (1L << 32) * -2).control(64, 2, 31).gives("one less", Bench.SQRT, Bench.INEXACT)
                .is("one less, up to 64 bits", (1L << 32) - 1);
        bench().whole((1L << 62) + (1L << 32) + 1).gives("(2^31 + 1)^2", Bench.SQRT, 0).is("2^31 + 1", (1L << 31) + 1);
        // Nothing of an earlier number is left.
        bench().whole(-1).whole(3).gives("-1 / 3", Bench.DIV, Bench.INEXACT).whole(4).gives("root of 4", Bench.SQRT, 0).is("not negative", 2);
        for (long bits : Wide.SIGNIFICANDS) {
            for (int exponent = -3; exponent <= 2; exponent++) {
                root(exponent, bits);
            }
        }
    }

    private static void root(int exponent, long bits) {
        int half = Math.floorDiv(exponent, 2);
        BigInteger[] root = Wide.unsigned(bits).shiftLeft(101 + exponent - 2 * half).sqrtAndRemainder();
        for (int rounding = 0; rounding < 4; rounding++) {
            String what = "root of " + Long.toHexString(bits) + " with E " + exponent + ", rounding " + rounding;
            Bench b = bench().finite(false, exponent, bits).control(64, rounding, 31);
            b.s.operate(Bench.SQRT, 0);
            Wide.isRounded(b, what, root[0], root[1].signum() != 0, half, rounding);
        }
    }

    private static void integers() {
        double[] values = {0.5, 1.5, 2.5, 0.75, 1.25, 1e-300};
        double[][] due = {{0, 2, 2, 1, 1, 0}, {0, 1, 2, 0, 1, 0}, {1, 2, 3, 1, 2, 1}, {0, 1, 2, 0, 1, 0}};
        for (int rounding = 0; rounding < 4; rounding++) {
            int mirrored = rounding == 1 ? 2 : rounding == 2 ? 1 : rounding;
            for (int n = 0; n < values.length; n++) {
                one(Bench.INTEGER, values[n], rounding, Bench.INEXACT, due[rounding][n]);
                one(Bench.INTEGER, -values[n], mirrored, Bench.INEXACT, -due[rounding][n]);
            }
            boolean isUp = rounding == 2;
            bench().finite(false, -16382, TOP).control(64, rounding, 31).gives("the least", Bench.INTEGER, Bench.INEXACT)
                    .is("the least, rounding " + rounding, isUp ? 1 : 0.0);
            // All ones with a half behind the point: 2^63 - 1/2.
            boolean isNext = rounding == 0 || rounding == 2;
            bench().finite(false, 62, -1).control(64, rounding, 31).gives("2^63 - 1/2", Bench.INTEGER, Bench.INEXACT)
                    .top("2^63 - 1/2, rounding " + rounding, 1, isNext ? 63 : 62, isNext ? TOP : -2);
        }
        bench().finite(false, -1, -1).gives("just below 1", Bench.INTEGER, Bench.INEXACT).is("just below 1", 1);
        bench().finite(false, -1, TOP | 1).gives("just above 1/2", Bench.INTEGER, Bench.INEXACT).is("just above 1/2", 1);
        bench().finite(false, -2, -1).gives("just below 1/2", Bench.INTEGER, Bench.INEXACT).is("just below 1/2", 0.0);
        bench().finite(false, 62, -3).gives("a half over an even one", Bench.INTEGER, Bench.INEXACT).top("down to the even one", 1, 62, -4);
    }

    private static void wholeOrNone() {
        for (int rounding = 0; rounding < 4; rounding++) {
            one(Bench.INTEGER, 1, rounding, 0, 1);
            one(Bench.INTEGER, -1, rounding, 0, -1);
            bench().finite(true, 63, -1).control(64, rounding, 31).gives("2^64 - 1", Bench.INTEGER, 0).top("2^64 - 1", 5, 63, -1);
            bench().finite(false, 62, -2).control(64, rounding, 31).gives("2^63 - 1", Bench.INTEGER, 0).top("2^63 - 1", 1, 62, -2);
            bench().finite(false, 64, -1).control(64, rounding, 31).gives("2^65 - 2", Bench.INTEGER, 0).top("2^65 - 2", 1, 64, -1);
            bench().finite(false, 16383, -1).control(64, rounding, 31).gives("the greatest", Bench.INTEGER, 0).top("the greatest", 1, 16383, -1);
            bench().finite(true, 62, -1).control(64, rounding, 31).gives("one bit behind the point", Bench.INTEGER, Bench.INEXACT);
            bench().finite(false, 0, TOP | 1).control(64, rounding, 31).gives("63 bits behind the point", Bench.INTEGER, Bench.INEXACT);
            bench().finite(false, -16382, TOP).control(64, rounding, 31).gives("all bits behind the point", Bench.INTEGER, Bench.INEXACT);
        }
    }

    private static void integerZero() {
        for (int rounding = 0; rounding < 4; rounding++) {
            one(Bench.INTEGER, 0.25, rounding, Bench.INEXACT, rounding == 2 ? 1 : 0.0);
            one(Bench.INTEGER, -0.25, rounding, Bench.INEXACT, rounding == 1 ? -1 : -0.0);
        }
        one(Bench.INTEGER, 0.5, 0, Bench.INEXACT, 0.0);
        one(Bench.INTEGER, -0.5, 0, Bench.INEXACT, -0.0);
    }

    private static void integerOfOthers() {
        double[] others = {0.0, -0.0, INF, -INF, NAN};
        for (double other : others) {
            for (int rounding = 0; rounding < 4; rounding++) {
                one(Bench.INTEGER, other, rounding, 0, other);
            }
        }
    }

    private static void integerWithoutP() {
        int[] precisions = {24, 53};
        for (int precision : precisions) {
            bench().finite(false, 63, -1).control(precision, 0, 31).gives("2^64 - 1", Bench.INTEGER, 0).top("2^64 - 1", 1, 63, -1);
            bench().finite(false, 61, -1).control(precision, 3, 31).gives("2^62 - 1/4", Bench.INTEGER, Bench.INEXACT).top("2^62 - 1", 1, 61, -4);
        }
    }

    private static void scales() {
        two(Bench.SCALE, 3, 5, 0, 40);
        two(Bench.SCALE, -3, 40, 0, 5);
        two(Bench.SCALE, 1, -5, 0, -10);
        bench().whole(32765).finite(false, -16382, -1).gives("all the way up", Bench.SCALE, 0).top("all the way up", 1, 16383, -1);
        bench().whole(-32765).finite(true, 16383, -1).gives("all the way down", Bench.SCALE, 0).top("all the way down", 5, -16382, -1);
    }

    /** For operations that leave y where it is. */
    private static void two(int operation, double y, double x, int flags, double due) {
        String what = "operation " + operation + " of y = " + y + " and x = " + x;
        Bench b = bench().dbl(y).dbl(x).gives(what, operation, flags).is(what, due).depth(what, 2).is(what + ", y", 1, y);
        checks.due(what + ": flags()", b.s.flags(), flags);
    }

    private static void scaleOfNan() {
        double[] others = {NAN, INF, 0.0, 3, 0.5, 40001};
        for (double other : others) {
            two(Bench.SCALE, NAN, other, 0, NAN);
            two(Bench.SCALE, other, NAN, 0, NAN);
        }
    }

    private static void scaleByFractions() {
        double[] fractions = {0.5, -0.5, 1e-300, 1.5, -1.5, 39999.5, -39999.5, 1 + Math.ulp(1.0)};
        for (double y : fractions) {
            two(Bench.SCALE, y, 5, 1, NAN);
        }
        bench().finite(false, 0, TOP | 1).whole(5).gives("1 + e", Bench.SCALE, 1).is("1 + e", NAN);
        bench().finite(false, -1, -1).whole(5).gives("1 - e", Bench.SCALE, 1).is("1 - e", NAN);
        bench().finite(false, -16382, TOP).whole(5).gives("the least", Bench.SCALE, 1).is("the least", NAN);
    }

    private static void scaleByLimits() {
        two(Bench.SCALE, 40000, 5, Bench.OVERFLOW | Bench.INEXACT, INF);
        two(Bench.SCALE, -40000, 5, Bench.UNDERFLOW | Bench.INEXACT, 0.0);
        two(Bench.SCALE, 40000, 0.0, 0, 0.0);
        two(Bench.SCALE, -40000, INF, 0, INF);
        double[] beyond = {40001, -40001, 40000.5, -40000.5, 65535, -65535, 65536, -65536, 131072, 4294967296.0, 1e300, -1e300};
        for (double y : beyond) {
            two(Bench.SCALE, y, 5, 1, NAN);
        }
        bench().finite(false, 63, TOP).whole(5).gives("2^63", Bench.SCALE, 1).is("2^63", NAN);
        bench().finite(false, 64, TOP).whole(5).gives("2^64", Bench.SCALE, 1).is("2^64", NAN);
        bench().finite(true, 16383, -1).whole(5).gives("the most negative", Bench.SCALE, 1).is("the most negative", NAN);
    }

    private static void scaleByZero() {
        two(Bench.SCALE, 0.0, 5, 0, 5);
        two(Bench.SCALE, -0.0, -5, 0, -5);
        two(Bench.SCALE, 0.0, -0.0, 0, -0.0);
        two(Bench.SCALE, -0.0, INF, 0, INF);
    }

    /** Whatever x is, but for NAN. */
    private static void scaleOtherwise() {
        double[] wrong = {INF, -INF, 0.5, 40001, -40001};
        double[] others = {5, -5, 0.0, -0.0, INF, -INF};
        for (double y : wrong) {
            for (double x : others) {
                two(Bench.SCALE, y, x, 1, NAN);
            }
        }
    }

    private static void scaleKeepsY() {
        double[] ys = {3, 0.0, -0.0, 40000, 40001, 0.5, INF, NAN};
        for (double y : ys) {
            Bench b = bench().whole(9).dbl(y).whole(5);
            b.s.operate(Bench.SCALE, 0);
            b.depth("y = " + y, 3).is("y = " + y, 1, y).is("and what is below", 2, 9);
        }
    }

    private static void scaleRounds() {
        bench().zero(false).finite(false, 0, -1).control(24, 0, 31).gives("24 bits", Bench.SCALE, Bench.INEXACT).is("24 bits", 2);
        bench().whole(5).finite(true, 0, -1).control(53, 2, 31).gives("53 bits", Bench.SCALE, Bench.INEXACT).top("53 bits", 5, 5, -1L << 11);
        bench().whole(5).finite(true, 0, -1).control(64, 2, 31).gives("64 bits", Bench.SCALE, 0).top("64 bits", 5, 5, -1);
        bench().whole(1).finite(true, 16383, -1).control(24, 3, 31).gives("too large", Bench.SCALE, Bench.OVERFLOW | Bench.INEXACT)
                .top("too large", 5, 16383, -1L << 40);
        bench().whole(-40000).finite(true, 16383, -1).control(24, 1, 31).gives("too small", Bench.SCALE, Bench.UNDERFLOW | Bench.INEXACT)
                .is("too small", -0.0);
    }

    private static void scaleOfOthers() {
        double[] others = {0.0, -0.0, INF, -INF};
        for (double x : others) {
            two(Bench.SCALE, 40000, x, 0, x);
            two(Bench.SCALE, -40000, x, 0, x);
            two(Bench.SCALE, 3, x, 0, x);
        }
    }

    private static void extracts() {
        extracts(1, 1, 0.0);
        extracts(-1.5, -1.5, 0.0);
        extracts(0.75, 1.5, -1);
        extracts(-40, -1.25, 5);
        bench().finite(false, 16383, -1).gives("the greatest", Bench.EXTRACT, 0).top("the greatest", 1, 0, -1).is("16383", 1, 16383);
        bench().finite(true, -16382, TOP).gives("the least", Bench.EXTRACT, 0).top("the least", 5, 0, TOP).is("-16382", 1, -16382);
    }

    private static void extracts(double x, double due, double exponent) {
        bench().whole(77).dbl(x).gives("EXTRACT of " + x, Bench.EXTRACT, 0).is("EXTRACT of " + x, due)
                .is("its exponent", 1, exponent).is("what is below", 2, 77).depth("EXTRACT of " + x, 3);
    }

    private static void extractIsExact() {
        for (int rounding = 0; rounding < 4; rounding++) {
            Bench b = bench().finite(true, 16383, -1).control(24, rounding, 0).gives("with 24 bits", Bench.EXTRACT, 0);
            b.depth("two in place of one", 2).top("all ones stay", 5, 0, -1).is("16383", 1, 16383);
            bench().whole(3).control(24, rounding, 0).gives("3", Bench.EXTRACT, 0).is("1", 1, 1);
            bench().whole(1).control(24, rounding, 0).gives("1", Bench.EXTRACT, 0).is("0, not negative", 1, 0.0);
        }
    }

    private static void extractOfOthers() {
        double[] others = {0.0, -0.0, INF, -INF, NAN};
        for (double x : others) {
            doesNothing("EXTRACT of " + x, compared().whole(77).dbl(x), Bench.EXTRACT, 0);
        }
    }

    private static void extractWithoutRoom() {
        doesNothing("a finite one", deep(8), Bench.EXTRACT, 0);
        doesNothing("a zero", deep(7).zero(true), Bench.EXTRACT, 0);
        deep(7).gives("room for one", Bench.EXTRACT, 0).depth("room for one", 8).is("7 / 4", 1.75).is("2", 1, 2).is("6", 2, 6);
    }

    private static void absolutes() {
        double[] values = {5, 0.0, INF};
        for (double value : values) {
            one(Bench.ABSOLUTE, value, 0, value);
            one(Bench.ABSOLUTE, -value, 0, value);
        }
        bench().finite(true, 0, -1).control(24, 0, 0).gives("all ones", Bench.ABSOLUTE, 0).top("not rounded", 1, 0, -1);
    }

    private static void negatives() {
        double[] values = {5, 0.0, INF};
        for (double value : values) {
            one(Bench.NEGATE, value, 0, -value);
            one(Bench.NEGATE, -value, 0, value);
        }
        bench().finite(false, 0, -1).control(24, 0, 0).gives("all ones", Bench.NEGATE, 0).top("not rounded", 5, 0, -1);
    }

    private static void signOfNan() {
        one(Bench.ABSOLUTE, NAN, 0, NAN);
        one(Bench.NEGATE, NAN, 0, NAN);
    }

    private static void exchanges() {
        for (int i = 0; i < 8; i++) {
            Bench b = deep(8);
            checks.due("EXCHANGE " + i, b.s.operate(Bench.EXCHANGE, i), 0);
            b.depth("EXCHANGE " + i, 8);
            for (int k = 0; k < 8; k++) {
                b.is("EXCHANGE " + i, k, k == 0 ? 8 - i : k == i ? 8 : 8 - k);
            }
        }
        Bench single = deep(1);
        checks.due("EXCHANGE 0 of one", single.s.operate(Bench.EXCHANGE, 0), 0);
        single.is("EXCHANGE 0 of one", 1);
    }

    private static void copies() {
        for (int i = 0; i < 7; i++) {
            Bench b = deep(7);
            checks.due("COPY " + i, b.s.operate(Bench.COPY, i), 0);
            b.depth("COPY " + i, 8).is("COPY " + i, 7 - i);
            for (int k = 1; k < 8; k++) {
                b.is("COPY " + i, k, 8 - k);
            }
        }
        double[] others = {0.0, -0.0, INF, -INF, NAN};
        for (double other : others) {
            bench().dbl(other).gives("COPY of " + other, Bench.COPY, 0).is("the copy", other).is("the first", 1, other);
        }
        bench().finite(true, 0, -1).control(24, 0, 0).gives("COPY of all ones", Bench.COPY, 0).top("not rounded", 5, 0, -1);
    }

    private static void drops() {
        Bench b = deep(8);
        for (int left = 7; left >= 0; left--) {
            checks.due("DROP", b.s.operate(Bench.DROP, 0), 0);
            b.depth("DROP", left);
            if (left > 0) {
                b.is("the next one", left);
            }
        }
        bench().whole(1).nan().gives("DROP of NAN", Bench.DROP, 0).is("what was below", 1);
    }

    private static void compares(Supplier<Bench> made, int condition, int flags) {
        Bench b = made.get();
        String before = Seen.stack(b.s);
        // Another condition first, so that it is seen to become this one.
        b.whole(condition == 1 ? 0 : 1).whole(condition == 1 ? 1 : 0);
        b.s.operate(Bench.COMPARE, 0);
        b.s.operate(Bench.DROP, 0);
        b.s.operate(Bench.DROP, 0);
        checks.due("COMPARE of " + before, b.s.operate(Bench.COMPARE, 0), flags);
        checks.due("condition() for " + before, b.s.condition(), condition);
        checks.due("x and y stay", Seen.stack(b.s), before);
    }

    /** In rising order; neighbours differ by as little as can be, or in their kinds. */
    private static Bench rising(Bench b, int rank) {
        return switch (rank) {
            case 0 -> b.infinite(true);
            case 1 -> b.finite(true, 16383, -1);
            case 2 -> b.finite(true, 1, TOP);
            case 3 -> b.finite(true, 0, -1);
            case 4 -> b.finite(true, 0, -2);
            case 5 -> b.finite(true, -16382, TOP);
            case 6 -> b.zero(false);
            case 7 -> b.finite(false, -16382, TOP);
            case 8 -> b.finite(false, 0, -2);
            case 9 -> b.finite(false, 0, -1);
            case 10 -> b.finite(false, 1, TOP);
            case 11 -> b.finite(false, 16383, -1);
            default -> b.infinite(false);
        };
    }

    private static void greater() {
        for (int y = 0; y < 13; y++) {
            for (int x = y + 1; x < 13; x++) {
                int low = y;
                int high = x;
                compares(() -> rising(rising(bench(), low), high), 0, 0);
            }
        }
        compares(() -> bench().finite(false, 0, TOP | 1).finite(false, 0, -1), 0, 0);
    }

    private static void less() {
        for (int y = 0; y < 13; y++) {
            for (int x = 0; x < y; x++) {
                int high = y;
                int low = x;
                compares(() -> rising(rising(bench(), high), low), 1, 0);
            }
        }
    }

    private static void equal() {
        for (int n = 0; n < 13; n++) {
            int rank = n;
            compares(() -> rising(rising(bench(), rank), rank), 2, 0);
        }
    }

    private static void equalZeros() {
        compares(() -> bench().zero(false).zero(true), 2, 0);
        compares(() -> bench().zero(true).zero(false), 2, 0);
        compares(() -> bench().zero(true).zero(true), 2, 0);
    }

    private static void comparedNan() {
        for (int n = 0; n < 13; n++) {
            int rank = n;
            compares(() -> rising(bench().nan(), rank), 3, 1);
            compares(() -> rising(bench(), rank).nan(), 3, 1);
        }
        compares(() -> bench().nan().nan(), 3, 1);
        StackReal s = bench().nan().whole(1).s;
        s.operate(Bench.COMPARE, 0);
        checks.due("flags()", s.flags(), Bench.INVALID);
    }

    private static void pushed(int operation, double due) {
        int[] precisions = {24, 53, 64};
        for (int precision : precisions) {
            for (int rounding = 0; rounding < 4; rounding++) {
                bench().control(precision, rounding, 0).gives("on an empty stack", operation, 0).depth("on an empty stack", 1).is("it", due);
            }
        }
        deep(7).gives("the last room", operation, 0).depth("the last room", 8).is("it", due).is("what was the top", 1, 7);
    }
}
