import java.util.ArrayList;
import java.util.List;
import java.util.function.LongSupplier;

/** A StackReal and a Model that get the same calls: every answer is compared. */
final class Pair {
    private final Checks checks;
    private final String name;
    private final StackReal s = new StackReal();
    private final Model m = new Model();
    private final List<String> calls = new ArrayList<>();

    Pair(Checks checks, String name) {
        this.checks = checks;
        this.name = name;
    }

    int callsMade() {
        return calls.size();
    }

    int depth() {
        return m.depth();
    }

    void control(int p, int r, int mask) {
        both("control(" + p + ", " + r + ", " + mask + ")", quiet(() -> s.control(p, r, mask)), quiet(() -> m.control(p, r, mask)));
    }

    void operate(int operation, int i) {
        both("operate(" + operation + ", " + i + ")", () -> s.operate(operation, i), () -> m.operate(operation, i));
    }

    void load(int cell, int form) {
        both("load(" + cell + ", " + form + ")", () -> s.load(cell, form), () -> m.load(cell, form));
    }

    void store(int cell, int form) {
        both("store(" + cell + ", " + form + ")", () -> s.store(cell, form), () -> m.store(cell, form));
    }

    void write(int cell, long value) {
        both("write(" + cell + ", " + value + "L)", quiet(() -> s.write(cell, value)), quiet(() -> m.write(cell, value)));
    }

    void memory(int cell) {
        both("memory(" + cell + ")", () -> s.memory(cell), () -> m.memory(cell));
    }

    void pass(int n) {
        both("pass(" + n + ")", quiet(() -> s.pass(n)), quiet(() -> m.pass(n)));
    }

    void await() {
        both("await()", s::await, m::await);
    }

    void clear() {
        both("clear()", quiet(s::clear), quiet(m::clear));
    }

    void top() {
        real(0);
    }

    void real(int i) {
        both("kind(" + i + ")", () -> s.kind(i), () -> m.kind(i));
        both("exponent(" + i + ")", () -> s.exponent(i), () -> m.exponent(i));
        both("significand(" + i + ")", () -> s.significand(i), () -> m.significand(i));
    }

    void everything() {
        both("time()", s::time, m::time);
        both("flags()", s::flags, m::flags);
        both("condition()", s::condition, m::condition);
        both("depth()", s::depth, m::depth);
        for (int i = 0; i < m.depth(); i++) {
            real(i);
        }
        for (int cell = 0; cell < 8; cell++) {
            memory(cell);
        }
    }

    private void both(String call, LongSupplier ours, LongSupplier models) {
        String got = outcome(ours);
        String want = outcome(models);
        calls.add(call + " -> " + got);
        checks.due(name + " call " + calls.size() + ", " + call, got, want);
        if (!got.equals(want)) {
            System.out.println("  after: " + String.join("; ", calls.subList(Math.max(0, calls.size() - 25), calls.size())));
        }
    }

    private static LongSupplier quiet(Runnable call) {
        return () -> {
            call.run();
            return 0;
        };
    }

    private static String outcome(LongSupplier call) {
        try {
            return Long.toString(call.getAsLong());
        } catch (RuntimeException e) {
            return "throws." + e.getClass().getSimpleName();
        }
    }
}
