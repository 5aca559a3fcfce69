/** Promise 1: a new object; and that objects do not share anything. */
public final class NewObjectTest {
    public static void main(String[] args) {
        Checks checks = new Checks("NewObjectTest");
        isNew(checks, new StackReal());
        StackReal used = new StackReal();
        used.control(24, 3, 0);
        used.operate(Bench.ONE, 0);
        used.operate(Bench.COPY, 0);
        used.operate(Bench.COMPARE, 0);
        used.write(3, 7);
        used.store(4, 0);
        checks.arithmetic("an exception that is not masked", () -> used.operate(Bench.ADD, 0));
        isNew(checks, new StackReal());
        controlIsNew(checks);
        checks.end();
    }

    private static void isNew(Checks checks, StackReal s) {
        checks.due("depth() of a new object", s.depth(), 0);
        checks.due("condition() of a new object", s.condition(), 0);
        checks.due("flags() of a new object", s.flags(), 0);
        checks.due("time() of a new object", s.time(), 0);
        checks.illegal("kind(0) of a new object", () -> s.kind(0));
        for (int n = 0; n < 8; n++) {
            int cell = n;
            checks.due("memory(" + cell + ") of a new object", s.memory(cell), 0);
        }
        checks.due("await() of a new object", s.await(), 0);
        checks.due("time() of a new object that was awaited", s.time(), 0);
        s.load(0, 0);
        checks.due("time() of the first call, which waits for nothing", s.time(), 0);
    }

    private static void controlIsNew(Checks checks) {
        Bench third = new Bench(checks);
        third.whole(1).whole(3).gives("1 / 3", Bench.DIV, Bench.INEXACT);
        third.top("64 bits, to the nearest", 1, -2, 0xAAAAAAAAAAAAAAABL);
        for (int operation = 0; operation < 14; operation++) {
            Bench empty = new Bench(checks);
            empty.gives("all exceptions are masked at first, operation " + operation, operation, Bench.INVALID);
        }
        Bench divided = new Bench(checks);
        divided.whole(1).whole(0).gives("1 / 0", Bench.DIV, Bench.DIVIDED);
    }
}
