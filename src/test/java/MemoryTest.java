/** Promises 6 and 7: write and memory. */
public final class MemoryTest {
    private static final Checks checks = new Checks("MemoryTest");

    public static void main(String[] args) {
        wrongInputs();
        cells();
        aStoreComesLater();
        checks.end();
    }

    private static void wrongInputs() {
        StackReal s = new StackReal();
        int[] noCell = {Integer.MIN_VALUE, -1, 8, 9, Integer.MAX_VALUE};
        for (int cell : noCell) {
            checks.illegal("write(" + cell + ", 1)", () -> s.write(cell, 1));
            checks.illegal("memory(" + cell + ")", () -> s.memory(cell));
        }
        for (int cell = 0; cell < 8; cell++) {
            checks.due("memory(" + cell + ") after wrong inputs", s.memory(cell), 0);
        }
    }

    private static void cells() {
        StackReal s = new StackReal();
        long[] values = {0, 1, -1, Long.MAX_VALUE, Long.MIN_VALUE, 1L << 40, -77, 0x0123456789ABCDEFL};
        for (int cell = 0; cell < 8; cell++) {
            s.write(cell, values[cell]);
        }
        for (int cell = 0; cell < 8; cell++) {
            checks.due("memory(" + cell + ")", s.memory(cell), values[cell]);
        }
        s.write(3, 4);
        checks.due("memory(3) written again", s.memory(3), 4);
        checks.due("time() after writes", s.time(), 0);
        checks.due("flags() after writes", s.flags(), 0);
    }

    private static void aStoreComesLater() {
        StackReal s = new Bench(checks).whole(5).s;
        s.await();
        s.store(2, 0);
        s.write(2, 9);
        checks.due("the processor's value, while the store is under way", s.memory(2), 9);
        s.write(3, 10);
        s.pass(9);
        checks.due("still after 9 ticks", s.memory(2), 9);
        s.write(2, 11);
        s.pass(1);
        checks.due("then the store's", s.memory(2), 5);
        checks.due("another cell is as it was written", s.memory(3), 10);
        s.write(2, 12);
        s.pass(20);
        checks.due("a write after the store stays", s.memory(2), 12);
    }
}
