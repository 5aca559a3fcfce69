/** Promises 11, 12 and 13: flags, clear and condition. */
public final class FlagsTest {
    private static final Checks checks = new Checks("FlagsTest");

    public static void main(String[] args) {
        flagsStay();
        clears();
        conditions();
        conditionStays();
        checks.end();
    }

    private static void flagsStay() {
        Bench b = new Bench(checks);
        b.whole(1).whole(3).gives("INEXACT", Bench.DIV, 16);
        checks.due("flags() after INEXACT", b.s.flags(), 16);
        b.whole(0).gives("DIVIDED", Bench.DIV, 2);
        checks.due("flags() after DIVIDED", b.s.flags(), 18);
        b.finite(false, 16383, Bench.TOP).whole(2).gives("OVERFLOW", Bench.MUL, 20);
        checks.due("flags() after OVERFLOW", b.s.flags(), 22);
        b.finite(false, -16382, Bench.TOP).whole(2).gives("UNDERFLOW", Bench.DIV, 24);
        checks.due("flags() after UNDERFLOW", b.s.flags(), 30);
        b.nan().gives("INVALID", Bench.COMPARE, 1);
        checks.due("flags() after INVALID", b.s.flags(), 31);
        b.gives("a call without exceptions", Bench.NEGATE, 0);
        b.control(24, 1, 0);
        checks.due("flags() at last", b.s.flags(), 31);
        b.gives("flags that were set before do not throw", Bench.NEGATE, 0);
    }

    private static void clears() {
        Bench b = new Bench(checks);
        b.s.clear();
        checks.due("flags() after clear() of none", b.s.flags(), 0);
        b.gives("INVALID", Bench.DROP, 1).whole(1).whole(0).gives("DIVIDED", Bench.DIV, 2);
        b.s.clear();
        checks.due("flags() after clear()", b.s.flags(), 0);
        b.depth("the stack stays", 1).top("the stack stays", 2, 0, 0);
        b.gives("INVALID again", Bench.COMPARE, 1);
        checks.due("flags() set again", b.s.flags(), 1);
    }

    private static void conditions() {
        // In rising order; the two zeros are equal.
        Bench[] benches = new Bench[9];
        for (int y = 0; y < 9; y++) {
            for (int x = 0; x < 9; x++) {
                benches[x] = new Bench(checks);
                pushRising(benches[x], y);
                pushRising(benches[x], x);
                int rankY = y > 4 ? y - 1 : y;
                int rankX = x > 4 ? x - 1 : x;
                compares("number " + x + " with " + y, benches[x], rankX > rankY ? 0 : rankX < rankY ? 1 : 2, 0);
            }
        }
        for (int other = 0; other < 9; other++) {
            Bench first = new Bench(checks).nan();
            pushRising(first, other);
            compares("number " + other + " with NAN", first, 3, 1);
            Bench last = new Bench(checks);
            pushRising(last, other);
            compares("NAN with number " + other, last.nan(), 3, 1);
        }
        compares("NAN with NAN", new Bench(checks).nan().nan(), 3, 1);
        compares("last bits, unsigned", new Bench(checks).finite(false, 5, Bench.TOP | 1).finite(false, 5, -1), 0, 0);
        compares("last bits, negative", new Bench(checks).finite(true, 5, Bench.TOP | 1).finite(true, 5, Bench.TOP), 0, 0);
        compares("exponents, negative", new Bench(checks).finite(true, 5, Bench.TOP).finite(true, 6, Bench.TOP), 1, 0);
    }

    private static void pushRising(Bench b, int number) {
        switch (number) {
            case 0 -> b.infinite(true);
            case 1 -> b.finite(true, 70, -1);
            case 2 -> b.whole(-2);
            case 3 -> b.finite(true, -70, Bench.TOP);
            case 4 -> b.zero(true);
            case 5 -> b.zero(false);
            case 6 -> b.finite(false, -70, Bench.TOP);
            case 7 -> b.whole(2);
            default -> b.infinite(false);
        }
    }

    private static void compares(String what, Bench b, int condition, int flags) {
        b.gives(what, Bench.COMPARE, flags).depth(what, 2);
        checks.due(what + ": condition()", b.s.condition(), condition);
    }

    private static void conditionStays() {
        Bench b = new Bench(checks).whole(3).whole(2).gives("2 with 3", Bench.COMPARE, 0);
        b.gives("ADD", Bench.ADD, 0).gives("too few to compare", Bench.COMPARE, 1);
        b.s.clear();
        checks.due("condition() stays 1", b.s.condition(), 1);
        b.nan().control(64, 0, 30);
        checks.arithmetic("NAN, not masked", () -> b.s.operate(Bench.COMPARE, 0));
        checks.due("condition() is still 1", b.s.condition(), 1);
        b.control(64, 0, 31).gives("NAN, masked", Bench.COMPARE, 1);
        checks.due("condition() is 3", b.s.condition(), 3);
    }
}
