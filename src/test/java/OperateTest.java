/** Promise 3: which operations there are, 5 and 7 to 15, exceptions that are not masked, and ticks. */
public final class OperateTest {
    private static final Checks checks = new Checks("OperateTest");
    private static final long TOP = Bench.TOP;

    public static void main(String[] args) {
        wrongInputs();
        integers();
        extracts();
        signs();
        exchangesAndCopies();
        pushes();
        answersItsOwnFlags();
        unmasked();
        ticks();
        checks.end();
    }

    private static Bench bench() {
        return new Bench(checks);
    }

    private static void wrongInputs() {
        StackReal s = bench().control(64, 0, 0).s;
        int[] none = {Integer.MIN_VALUE, -1, 16, 17, Integer.MAX_VALUE};
        for (int operation : none) {
            checks.illegal("operate(" + operation + ", 0)", () -> s.operate(operation, 0));
        }
        int[] nowhere = {Integer.MIN_VALUE, -1, 8, 9, Integer.MAX_VALUE};
        for (int i : nowhere) {
            checks.illegal("operate(10, " + i + ")", () -> s.operate(10, i));
            checks.illegal("operate(11, " + i + ")", () -> s.operate(11, i));
        }
        checks.due("flags() after wrong inputs", s.flags(), 0);
        checks.due("await() after wrong inputs", s.await(), 0);
        for (int i : nowhere) {
            checks.fine("operate(14, " + i + "), where i is of no matter", () -> s.operate(14, i));
            checks.fine("operate(12, " + i + "), where i is of no matter", () -> s.operate(12, i));
        }
    }

    private static void integers() {
        double[] values = {2.5, 3.5, -2.5, 0.5, -0.5, 0.75, -0.75, 0.25, -0.25, 1e-300, -1e-300, 1.5, -7.75};
        double[][] due = {
            {2, 4, -2, 0.0, -0.0, 1, -1, 0.0, -0.0, 0.0, -0.0, 2, -8},
            {2, 3, -3, 0.0, -1, 0.0, -1, 0.0, -1, 0.0, -1, 1, -8},
            {3, 4, -2, 1, -0.0, 1, -0.0, 1, -0.0, 1, -0.0, 2, -7},
            {2, 3, -2, 0.0, -0.0, 0.0, -0.0, 0.0, -0.0, 0.0, -0.0, 1, -7}};
        for (int rounding = 0; rounding < 4; rounding++) {
            for (int n = 0; n < values.length; n++) {
                String what = "INTEGER of " + values[n] + ", rounding " + rounding;
                bench().control(24, rounding, 31).dbl(values[n]).gives(what, Bench.INTEGER, Bench.INEXACT)
                        .stores(what, Bench.DOUBLE, 0, Double.doubleToRawLongBits(due[rounding][n]));
            }
        }
        bench().finite(false, 61, -1).control(24, 3, 31).gives("P has no part in INTEGER", Bench.INTEGER, Bench.INEXACT)
                .top("P has no part in INTEGER", 1, 61, -4);
        bench().finite(true, 62, -1).gives("INTEGER with a carry", Bench.INTEGER, Bench.INEXACT).top("INTEGER with a carry", 5, 63, TOP);
        bench().finite(false, 63, -1).control(24, 0, 31).gives("INTEGER of a whole one", Bench.INTEGER, 0).top("INTEGER of a whole one", 1, 63, -1);
        bench().finite(false, 16383, -1).gives("INTEGER of a great one", Bench.INTEGER, 0).top("INTEGER of a great one", 1, 16383, -1);
        bench().whole(-5).gives("INTEGER of -5", Bench.INTEGER, 0).top("INTEGER of -5", 5, 2, 5L << 61);
        bench().zero(true).gives("INTEGER of -0", Bench.INTEGER, 0).top("INTEGER of -0", 4, 0, 0);
        bench().infinite(true).gives("INTEGER of -inf", Bench.INTEGER, 0).top("INTEGER of -inf", 6, 0, 0);
        bench().nan().gives("INTEGER of NAN", Bench.INTEGER, 0).top("INTEGER of NAN", 3, 0, 0);
        bench().gives("INTEGER of nothing", Bench.INTEGER, 1);
    }

    private static void extracts() {
        bench().whole(-40).gives("EXTRACT of -40", Bench.EXTRACT, 0).depth("EXTRACT of -40", 2)
                .top("EXTRACT of -40", 5, 0, 5L << 61).at("its exponent", 1, 1, 2, 5L << 61);
        bench().dbl(0.75).gives("EXTRACT of 0.75", Bench.EXTRACT, 0).top("EXTRACT of 0.75", 1, 0, 3L << 62).at("its exponent", 1, 5, 0, TOP);
        bench().dbl(-1.5).gives("EXTRACT of -1.5", Bench.EXTRACT, 0).top("EXTRACT of -1.5", 5, 0, 3L << 62).at("its exponent", 1, 0, 0, 0);
        bench().finite(false, -16382, -1).control(24, 1, 31).gives("EXTRACT is not rounded", Bench.EXTRACT, 0)
                .top("EXTRACT is not rounded", 1, 0, -1).at("its exponent", 1, 5, 13, 16382L << 50);
        bench().zero(true).gives("EXTRACT of -0", Bench.EXTRACT, 1).depth("EXTRACT of -0", 1).top("EXTRACT of -0", 4, 0, 0);
        bench().infinite(true).gives("EXTRACT of -inf", Bench.EXTRACT, 1).depth("EXTRACT of -inf", 1).top("EXTRACT of -inf", 6, 0, 0);
        bench().nan().gives("EXTRACT of NAN", Bench.EXTRACT, 1).depth("EXTRACT of NAN", 1).top("EXTRACT of NAN", 3, 0, 0);
        bench().gives("EXTRACT of nothing", Bench.EXTRACT, 1).depth("EXTRACT of nothing", 0);
        full().gives("EXTRACT without room", Bench.EXTRACT, 1).depth("EXTRACT without room", 8).top("EXTRACT without room", 1, 3, TOP);
        Bench seven = full();
        seven.s.operate(Bench.DROP, 0);
        seven.gives("EXTRACT with room for one", Bench.EXTRACT, 0).depth("EXTRACT with room for one", 8);
    }

    /** 1 to 8, with 8 on the top. */
    private static Bench full() {
        Bench b = bench();
        for (int n = 1; n <= 8; n++) {
            b.whole(n);
        }
        return b;
    }

    private static void signs() {
        bench().whole(-3).gives("ABSOLUTE of -3", Bench.ABSOLUTE, 0).top("ABSOLUTE of -3", 1, 1, 3L << 62);
        bench().whole(3).gives("ABSOLUTE of 3", Bench.ABSOLUTE, 0).top("ABSOLUTE of 3", 1, 1, 3L << 62);
        bench().zero(true).gives("ABSOLUTE of -0", Bench.ABSOLUTE, 0).top("ABSOLUTE of -0", 0, 0, 0);
        bench().infinite(true).gives("ABSOLUTE of -inf", Bench.ABSOLUTE, 0).top("ABSOLUTE of -inf", 2, 0, 0);
        bench().nan().gives("ABSOLUTE of NAN", Bench.ABSOLUTE, 0).top("ABSOLUTE of NAN", 3, 0, 0);
        bench().whole(-3).gives("NEGATE of -3", Bench.NEGATE, 0).top("NEGATE of -3", 1, 1, 3L << 62);
        bench().whole(3).gives("NEGATE of 3", Bench.NEGATE, 0).top("NEGATE of 3", 5, 1, 3L << 62);
        bench().zero(false).gives("NEGATE of 0", Bench.NEGATE, 0).top("NEGATE of 0", 4, 0, 0);
        bench().infinite(true).gives("NEGATE of -inf", Bench.NEGATE, 0).top("NEGATE of -inf", 2, 0, 0);
        bench().nan().gives("NEGATE of NAN", Bench.NEGATE, 0).top("NEGATE of NAN", 3, 0, 0);
        bench().finite(false, 0, -1).control(24, 0, 31).gives("NEGATE does not round", Bench.NEGATE, 0).top("NEGATE does not round", 5, 0, -1);
        bench().gives("ABSOLUTE of nothing", Bench.ABSOLUTE, 1);
        bench().gives("NEGATE of nothing", Bench.NEGATE, 1);
    }

    private static void exchangesAndCopies() {
        for (int i = 0; i < 8; i++) {
            Bench b = full();
            checks.due("EXCHANGE " + i, b.s.operate(Bench.EXCHANGE, i), 0);
            b.stores("ST0 after EXCHANGE " + i, Bench.WHOLE, 0, 8 - i);
            for (int below = 1; below < 8; below++) {
                b.stores("ST" + below + " after EXCHANGE " + i, Bench.WHOLE, 0, below == i ? 8 : 8 - below);
            }
        }
        for (int i = 0; i < 7; i++) {
            Bench b = full();
            b.s.operate(Bench.DROP, 0);
            checks.due("COPY " + i, b.s.operate(Bench.COPY, i), 0);
            b.depth("COPY " + i, 8).stores("ST0 after COPY " + i, Bench.WHOLE, 0, 7 - i);
            for (int below = 1; below < 8; below++) {
                b.stores("ST" + below + " after COPY " + i, Bench.WHOLE, 0, 8 - below);
            }
        }
        Bench two = bench().whole(1).whole(2);
        checks.due("EXCHANGE 2 of two", two.s.operate(Bench.EXCHANGE, 2), 1);
        checks.due("COPY 2 of two", two.s.operate(Bench.COPY, 2), 1);
        checks.due("COPY 7 of two", two.s.operate(Bench.COPY, 7), 1);
        two.depth("two", 2).top("two", 1, 1, TOP).at("two", 1, 1, 0, TOP);
        two.s.operate(Bench.COPY, 0);
        two.s.operate(Bench.NEGATE, 0);
        two.at("what was copied stays as it is", 1, 1, 1, TOP);
        bench().gives("EXCHANGE 0 of nothing", Bench.EXCHANGE, 1);
        bench().gives("COPY 0 of nothing", Bench.COPY, 1).depth("COPY 0 of nothing", 0);
    }

    private static void pushes() {
        bench().gives("ONE", Bench.ONE, 0).top("ONE", 1, 0, TOP).gives("ZERO", Bench.ZERO, 0).top("ZERO", 0, 0, 0).depth("ZERO", 2);
        bench().control(24, 1, 31).gives("ZERO, rounding 1", Bench.ZERO, 0).top("ZERO, rounding 1", 0, 0, 0);
        bench().whole(5).whole(6).gives("DROP", Bench.DROP, 0).depth("DROP", 1).top("DROP", 1, 2, 5L << 61);
        bench().gives("DROP of nothing", Bench.DROP, 1).depth("DROP of nothing", 0);
        int[] growing = {Bench.COPY, Bench.ONE, Bench.ZERO};
        for (int operation : growing) {
            full().gives("a push on a full stack, " + operation, operation, 1).depth("a push on a full stack", 8)
                    .top("a push on a full stack", 1, 3, TOP).at("a push on a full stack", 7, 1, 0, TOP);
        }
    }

    private static void answersItsOwnFlags() {
        Bench b = bench().whole(1).whole(3).gives("1 / 3", Bench.DIV, Bench.INEXACT);
        b.whole(0).gives("(1 / 3) / 0", Bench.DIV, Bench.DIVIDED);
        checks.due("flags() has both", b.s.flags(), Bench.INEXACT | Bench.DIVIDED);
        b.whole(1).whole(3).gives("1 / 3 again, with its flag set before", Bench.DIV, Bench.INEXACT);
        b.gives("ONE with flags set before", Bench.ONE, 0);
    }

    private static void unmasked() {
        throwsAndKeeps("INVALID of ADD", 30, Bench.ADD, 1, bench().infinite(false).infinite(true));
        throwsAndKeeps("DIVIDED", 29, Bench.DIV, 2, bench().whole(1).zero(false));
        throwsAndKeeps("OVERFLOW", 27, Bench.MUL, 20, bench().finite(false, 16000, TOP).finite(false, 16000, TOP));
        throwsAndKeeps("INEXACT of an overflow", 15, Bench.MUL, 20, bench().finite(false, 16000, TOP).finite(false, 16000, TOP));
        throwsAndKeeps("UNDERFLOW", 23, Bench.MUL, 24, bench().finite(false, -16000, TOP).finite(false, -16000, TOP));
        throwsAndKeeps("INEXACT", 15, Bench.DIV, 16, bench().whole(1).whole(3));
        throwsAndKeeps("INEXACT of SQRT", 15, Bench.SQRT, 16, bench().whole(1).whole(3));
        throwsAndKeeps("INVALID of SQRT", 0, Bench.SQRT, 1, bench().whole(1).whole(-3));
        throwsAndKeeps("INEXACT of INTEGER", 0, Bench.INTEGER, 16, bench().whole(1).dbl(2.5));
        throwsAndKeeps("INVALID of SCALE", 0, Bench.SCALE, 1, bench().dbl(2.5).whole(1));
        throwsAndKeeps("INVALID of EXTRACT", 0, Bench.EXTRACT, 1, bench().whole(1).zero(false));
        throwsAndKeeps("INVALID of COMPARE", 0, Bench.COMPARE, 1, bench().whole(1).nan());
        throwsAndKeeps("too few for EXCHANGE", 0, Bench.EXCHANGE, 1, bench().whole(1).whole(2));
        throwsAndKeeps("too few for COPY", 0, Bench.COPY, 1, bench().whole(1).whole(2));
        Bench masked = bench().whole(1).whole(3).control(64, 0, 16);
        masked.gives("INEXACT is the one that is masked", Bench.DIV, 16);
        Bench full = full().control(64, 0, 30);
        checks.arithmetic("ONE on a full stack", () -> full.s.operate(Bench.ONE, 0));
        checks.arithmetic("ZERO on a full stack", () -> full.s.operate(Bench.ZERO, 0));
        full.depth("a full stack", 8).top("a full stack", 1, 3, TOP);
        StackReal empty = bench().control(64, 0, 30).s;
        for (int operation = 0; operation < 14; operation++) {
            int op = operation;
            checks.arithmetic("operation " + op + " with nothing on the stack", () -> empty.operate(op, 0));
        }
    }

    /** Only the flags and the busy time change; i is 5, where too few are. */
    private static void throwsAndKeeps(String what, int mask, int operation, int flags, Bench b) {
        StackReal s = b.s;
        s.await();
        s.clear();
        s.control(64, 0, mask);
        long time = s.time();
        int[] kinds = {s.kind(0), s.kind(1)};
        int[] exponents = {s.exponent(0), s.exponent(1)};
        long[] significands = {s.significand(0), s.significand(1)};
        checks.arithmetic(what, () -> s.operate(operation, 5));
        checks.due(what + ": flags()", s.flags(), flags);
        b.depth(what, 2).at(what, 0, kinds[0], exponents[0], significands[0]).at(what, 1, kinds[1], exponents[1], significands[1]);
        checks.due(what + ": condition()", s.condition(), 0);
        checks.due(what + ": time()", s.time(), time);
        checks.isTrue(what + ": busy", s.await() > 0);
    }

    private static void ticks() {
        int[] due = {8, 8, 12, 20, 20, 6, 6, 6, 2, 2, 2, 2, 2, 2, 2, 2};
        for (int operation = 0; operation < 16; operation++) {
            String what = "operation " + operation;
            StackReal s = bench().whole(4).whole(9).s;
            s.await();
            long time = s.time();
            s.operate(operation, 0);
            checks.due(what + ": time()", s.time(), time);
            checks.due(what + ": await()", s.await(), due[operation]);
            s.operate(operation == 12 ? 14 : operation, 0);
            long begun = s.time();
            s.operate(14, 0);
            checks.due(what + ": the next one waits", s.time(), begun + (operation == 12 ? 2 : due[operation]));
        }
        StackReal empty = new StackReal();
        empty.operate(Bench.DIV, 0);
        checks.due("too few take their ticks as well", empty.await(), 20);
    }
}
