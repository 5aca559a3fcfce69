/** Promises 8, 9 and 10: pass, await and time. */
public final class TimeTest {
    private static final Checks checks = new Checks("TimeTest");

    public static void main(String[] args) {
        wrongInputs();
        passes();
        awaits();
        looksTakeNoTime();
        checks.end();
    }

    private static void wrongInputs() {
        StackReal s = new StackReal();
        int[] wrong = {Integer.MIN_VALUE, -1000, -1, 1001, 1002, Integer.MAX_VALUE};
        for (int n : wrong) {
            checks.illegal("pass(" + n + ")", () -> s.pass(n));
        }
        checks.due("time() after wrong inputs", s.time(), 0);
    }

    private static void passes() {
        StackReal s = new StackReal();
        s.pass(0);
        checks.due("time() after pass(0)", s.time(), 0);
        s.pass(1);
        checks.due("time() after pass(1)", s.time(), 1);
        s.pass(1000);
        checks.due("time() after pass(1000)", s.time(), 1001);
        for (int n = 0; n < 400; n++) {
            s.pass(1000);
        }
        checks.due("time() after 400 times pass(1000)", s.time(), 401001);
    }

    private static void awaits() {
        StackReal s = new StackReal();
        s.operate(Bench.DIV, 0);
        s.pass(7);
        checks.due("await() 7 ticks after a DIV", s.await(), 13);
        checks.due("time() then", s.time(), 20);
        checks.due("await() again", s.await(), 0);
        checks.due("time() again", s.time(), 20);
        s.operate(Bench.ONE, 0);
        s.pass(2);
        checks.due("await() just at the end", s.await(), 0);
        s.pass(100);
        s.operate(Bench.ONE, 0);
        checks.due("the busy time begins at the call, not where the last one ended", s.await(), 2);
        checks.due("time() at last", s.time(), 124);
        s.operate(Bench.MUL, 0);
        s.operate(Bench.ADD, 0);
        s.operate(Bench.SQRT, 0);
        checks.due("each call waits for the one before", s.time(), 124 + 12 + 8);
        checks.due("and is busy for its own ticks", s.await(), 20);
        s.store(0, 0);
        checks.due("await() lets the store come to its end", s.memory(0), 0);
        checks.due("after 10 ticks", s.await(), 10);
        checks.due("then it is there", s.memory(0), 1);
    }

    private static void looksTakeNoTime() {
        StackReal s = new StackReal();
        s.operate(Bench.ONE, 0);
        s.flags();
        s.clear();
        s.condition();
        s.depth();
        s.kind(0);
        s.exponent(0);
        s.significand(0);
        s.memory(0);
        s.write(0, 1);
        s.control(64, 0, 31);
        s.time();
        checks.illegal("a wrong load", () -> s.load(8, 0));
        checks.illegal("a wrong store", () -> s.store(8, 0));
        checks.illegal("a wrong operation", () -> s.operate(16, 0));
        checks.due("time() after looks", s.time(), 0);
        checks.due("await() after looks", s.await(), 2);
    }
}
