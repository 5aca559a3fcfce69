/** Promise 2: control, and what its three parts do. */
public final class ControlTest {
    private static final Checks checks = new Checks("ControlTest");

    public static void main(String[] args) {
        wrongInputs();
        precisions();
        roundings();
        masks();
        isAtOnce();
        checks.end();
    }

    private static void wrongInputs() {
        int[] noPrecision = {Integer.MIN_VALUE, -64, -1, 0, 1, 23, 25, 32, 52, 54, 63, 65, 128, Integer.MAX_VALUE};
        for (int precision : noPrecision) {
            refused(precision, 0, 31);
        }
        int[] noRounding = {Integer.MIN_VALUE, -1, 4, 5, Integer.MAX_VALUE};
        for (int rounding : noRounding) {
            refused(64, rounding, 31);
        }
        int[] noMask = {Integer.MIN_VALUE, -1, 32, 33, 63, Integer.MAX_VALUE};
        for (int mask : noMask) {
            refused(64, 0, mask);
        }
    }

    /** After the refusal the control is what it was: 24 bits, upwards, all masked but DIVIDED. */
    private static void refused(int precision, int rounding, int mask) {
        String call = "control(" + precision + ", " + rounding + ", " + mask + ")";
        Bench b = new Bench(checks).control(24, 2, 29);
        checks.illegal(call, () -> b.s.control(precision, rounding, mask));
        checks.due("time() after " + call, b.s.time(), 0);
        b.whole(1).whole(3).gives("1 / 3 after " + call, Bench.DIV, Bench.INEXACT);
        b.top("1 / 3 after " + call, 1, -2, 0xAAAAAB0000000000L);
        b.whole(0);
        checks.arithmetic("1 / 0 after " + call, () -> b.s.operate(Bench.DIV, 0));
    }

    private static void precisions() {
        int[] precisions = {24, 53, 64};
        long[] down = {0xAAAAAA0000000000L, 0xAAAAAAAAAAAAA800L, 0xAAAAAAAAAAAAAAAAL};
        for (int n = 0; n < 3; n++) {
            Bench b = new Bench(checks).control(precisions[n], 3, 31);
            b.whole(2).whole(3).gives("2 / 3", Bench.DIV, Bench.INEXACT);
            b.top("2 / 3 with " + precisions[n] + " bits", 1, -1, down[n]);
        }
    }

    private static void roundings() {
        // 1/3 lies between ...AA and ...AB, nearer to ...AB.
        long below = 0xAAAAAAAAAAAAAAAAL;
        long above = 0xAAAAAAAAAAAAAAABL;
        long[] positive = {above, below, above, below};
        long[] negative = {above, above, below, below};
        for (int rounding = 0; rounding < 4; rounding++) {
            Bench b = new Bench(checks).control(64, rounding, 31);
            b.whole(1).whole(3).gives("1 / 3", Bench.DIV, Bench.INEXACT);
            b.top("1 / 3 with rounding " + rounding, 1, -2, positive[rounding]);
            b.whole(-1).whole(3).gives("-1 / 3", Bench.DIV, Bench.INEXACT);
            b.top("-1 / 3 with rounding " + rounding, 5, -2, negative[rounding]);
        }
    }

    private static void masks() {
        for (int mask = 0; mask < 32; mask++) {
            StackReal s = new StackReal();
            s.control(64, 0, mask);
            if ((mask & 1) == 0) {
                checks.arithmetic("DROP of nothing, mask " + mask, () -> s.operate(Bench.DROP, 0));
            } else {
                checks.fine("DROP of nothing, mask " + mask, () -> s.operate(Bench.DROP, 0));
            }
            checks.due("flags(), mask " + mask, s.flags(), 1);
        }
    }

    private static void isAtOnce() {
        StackReal s = new StackReal();
        s.operate(Bench.ONE, 0);
        s.control(24, 0, 31);
        checks.due("time() after a control while busy", s.time(), 0);
        checks.due("await() after a control while busy", s.await(), 2);
    }
}
