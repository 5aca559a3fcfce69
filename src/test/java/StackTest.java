/** Promises 14 to 17: depth, kind, exponent and significand. */
public final class StackTest {
    private static final Checks checks = new Checks("StackTest");

    public static void main(String[] args) {
        depths();
        kinds();
        exponentsAndSignificands();
        wrongInputs();
        checks.end();
    }

    private static void depths() {
        StackReal s = new StackReal();
        for (int n = 1; n <= 8; n++) {
            s.operate(Bench.ONE, 0);
            checks.due("depth() after " + n, s.depth(), n);
        }
        s.operate(Bench.ONE, 0);
        checks.due("depth() of a full stack", s.depth(), 8);
        for (int n = 7; n >= 0; n--) {
            s.operate(Bench.DROP, 0);
            checks.due("depth() down to " + n, s.depth(), n);
        }
        s.operate(Bench.DROP, 0);
        checks.due("depth() of an empty stack", s.depth(), 0);
    }

    private static void kinds() {
        Bench b = new Bench(checks);
        b.zero(false).whole(5).infinite(false).nan().zero(true).whole(-5).infinite(true).nan();
        int[] due = {3, 6, 5, 4, 3, 2, 1, 0};
        for (int i = 0; i < 8; i++) {
            checks.due("kind(" + i + ")", b.s.kind(i), due[i]);
            boolean finite = due[i] == 1 || due[i] == 5;
            checks.due("exponent(" + i + ")", b.s.exponent(i), finite ? 2 : 0);
            checks.due("significand(" + i + ")", b.s.significand(i), finite ? 5L << 61 : 0);
        }
    }

    private static void exponentsAndSignificands() {
        int[] exponents = {-16382, -16381, -1, 0, 1, 63, 64, 16382, 16383};
        long[] significands = {Bench.TOP, -1, Bench.TOP | 1, 0xA123456789ABCDEFL};
        for (int exponent : exponents) {
            for (long significand : significands) {
                new Bench(checks).finite(false, exponent, significand).top("a real", 1, exponent, significand);
                new Bench(checks).finite(true, exponent, significand).top("a negative real", 5, exponent, significand);
            }
        }
        // What was finite in the same place before must not shine through.
        Bench b = new Bench(checks).finite(false, 9, -1);
        b.gives("DROP", Bench.DROP, 0).zero(false).top("a zero", 0, 0, 0);
        b.gives("DROP", Bench.DROP, 0).finite(true, 9, -1).gives("DROP", Bench.DROP, 0).nan().top("NAN", 3, 0, 0);
        b.gives("DROP", Bench.DROP, 0).finite(true, 9, -1).whole(0).gives("DIV", Bench.DIV, 2).top("infinite", 6, 0, 0);
    }

    private static void wrongInputs() {
        for (int depth = 0; depth <= 8; depth++) {
            StackReal s = new StackReal();
            for (int n = 0; n < depth; n++) {
                s.operate(Bench.ONE, 0);
            }
            int[] missing = {Integer.MIN_VALUE, -1, depth, depth + 1, 8, 9, Integer.MAX_VALUE};
            for (int i : missing) {
                checks.illegal("kind(" + i + ") of " + depth, () -> s.kind(i));
                checks.illegal("exponent(" + i + ") of " + depth, () -> s.exponent(i));
                checks.illegal("significand(" + i + ") of " + depth, () -> s.significand(i));
            }
            if (depth > 0) {
                int last = depth - 1;
                checks.due("kind(" + last + ") of " + depth, s.kind(last), 1);
                checks.due("significand(" + last + ") of " + depth, s.significand(last), Bench.TOP);
            }
        }
    }
}
