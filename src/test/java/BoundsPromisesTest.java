/** Boundary cases, sentence by sentence: promises 1 to 17. */
public final class BoundsPromisesTest {
    private static final Checks checks = new Checks("BoundsPromisesTest");
    private static final long TOP = Bench.TOP;
    private static final int[] NO_CELL = {Integer.MIN_VALUE, -8, -1, 8, 9, 256, Integer.MAX_VALUE};
    private static final int[] NO_FORM = {Integer.MIN_VALUE, -4, -1, 4, 5, 256, Integer.MAX_VALUE};

    public static void main(String[] args) {
        checks.sentence("Promise 1", "An empty stack", BoundsPromisesTest::emptyStack);
        checks.sentence("Promise 1", "memory 0", BoundsPromisesTest::emptyMemory);
        checks.sentence("Promise 1", "condition 0", () -> checks.due("condition()", new StackReal().condition(), 0));
        checks.sentence("Promise 1", "not busy", BoundsPromisesTest::notBusy);
        checks.sentence("Promise 1", "time 0", () -> checks.due("time()", new StackReal().time(), 0));
        checks.sentence("Promise 2", "Sets precision (24, 53 or 64), rounding (0 .. 3) and mask (0 .. 31)", BoundsPromisesTest::controls);
        checks.sentence("Promise 2, precision", "IllegalArgumentException: one is not as said", BoundsPromisesTest::noPrecision);
        checks.sentence("Promise 2, rounding", "IllegalArgumentException: one is not as said", BoundsPromisesTest::noRounding);
        checks.sentence("Promise 2, mask", "IllegalArgumentException: one is not as said", BoundsPromisesTest::noMask);
        checks.sentence("Promise 3", "An operation 0 .. 15, with i for 10 and 11 (of no matter for others)", BoundsPromisesTest::iOfNoMatter);
        checks.sentence("Promise 3", "Answers the flags that it has set", BoundsPromisesTest::operateAnswers);
        checks.sentence("Promise 3", "IllegalArgumentException: there is no such operation", BoundsPromisesTest::noOperation);
        checks.sentence("Promise 3", "or i is not 0 .. 7 for 10 or 11", BoundsPromisesTest::noPlace);
        checks.sentence("Promise 3", "ArithmeticException: an exception that is not masked", BoundsPromisesTest::operateUnmasked);
        checks.sentence("Promise 4", "LOADs a cell in a form: the flags that it has set", BoundsPromisesTest::loadAnswers);
        checks.sentence("Promise 4", "IllegalArgumentException: no such cell or form", BoundsPromisesTest::noLoad);
        checks.sentence("Promise 4", "ArithmeticException as above", BoundsPromisesTest::loadUnmasked);
        checks.sentence("Promise 5", "STOREs: the flags that it has set", BoundsPromisesTest::storeAnswers);
        checks.sentence("Promise 5", "(With an empty stack: INVALID, and nothing else happens.)", BoundsPromisesTest::storeOfNothing);
        checks.sentence("Promise 5", "IllegalArgumentException: no such cell or form", BoundsPromisesTest::noStore);
        checks.sentence("Promise 5", "ArithmeticException as above", BoundsPromisesTest::storeUnmasked);
        checks.sentence("Promise 6", "The processor writes a cell", BoundsPromisesTest::writes);
        checks.sentence("Promise 6", "what the coprocessor is about to store there comes later", BoundsPromisesTest::comesLater);
        checks.sentence("Promise 6", "IllegalArgumentException: there is no such cell", BoundsPromisesTest::noWrite);
        checks.sentence("Promise 7", "What a cell holds now", BoundsPromisesTest::holdsNow);
        checks.sentence("Promise 7", "IllegalArgumentException: there is no such cell", BoundsPromisesTest::noMemory);
        checks.sentence("Promise 8", "n ticks pass", BoundsPromisesTest::passes);
        checks.sentence("Promise 8", "IllegalArgumentException: n is not 0 .. 1000", BoundsPromisesTest::noPass);
        checks.sentence("Promise 9", "The time goes on until the coprocessor is not busy: how many ticks that were", BoundsPromisesTest::awaits);
        checks.sentence("Promise 10", "The time", BoundsPromisesTest::times);
        checks.sentence("Promise 11", "The flags", BoundsPromisesTest::allFlags);
        checks.sentence("Promise 12", "No flag is set any more", BoundsPromisesTest::clears);
        checks.sentence("Promise 13", "The condition", BoundsPromisesTest::conditions);
        checks.sentence("Promise 14", "How many reals are on the stack", BoundsPromisesTest::depths);
        checks.sentence("Promise 15", "0 zero, 1 finite, 2 infinite, 3 NAN, 4 more when it is negative", BoundsPromisesTest::kinds);
        checks.sentence("Promise 15", "IllegalArgumentException: there is no STi", BoundsPromisesTest::noKind);
        checks.sentence("Promise 16", "The exponent E of STi; 0 when it is not finite", BoundsPromisesTest::exponents);
        checks.sentence("Promise 16", "IllegalArgumentException: there is no STi", BoundsPromisesTest::noExponent);
        checks.sentence("Promise 17", "The significand of STi, its 64 bits as a long; 0 when it is not finite", BoundsPromisesTest::significands);
        checks.sentence("Promise 17", "IllegalArgumentException: there is no STi", BoundsPromisesTest::noSignificand);
        checks.end();
    }

    private static Bench bench() {
        return new Bench(checks);
    }

    /** Busy, with a store under way, a flag, a condition, two reals, and nothing masked. */
    private static StackReal used() {
        StackReal s = bench().whole(5).whole(6).whole(4).s;
        s.operate(Bench.COMPARE, 0);
        s.operate(Bench.EXCHANGE, 7);
        s.write(1, 11);
        s.store(1, Bench.WHOLE);
        s.control(24, 2, 0);
        return s;
    }

    private interface Call {
        void on(StackReal s);
    }

    /** A refused call leaves everything as it was: it takes no time, sets no flag, and does not wait. */
    private static void refused(String what, Call call) {
        StackReal s = used();
        String before = Seen.all(s);
        checks.illegal(what, () -> call.on(s));
        checks.due(what + ": what is seen", Seen.all(s), before);
        checks.due(what + ": await()", s.await(), 10);
        checks.due(what + ": memory(1)", s.memory(1), 4);
        StackReal fresh = new StackReal();
        checks.illegal(what + " on a new object", () -> call.on(fresh));
        checks.due(what + ": a new object", Seen.all(fresh), Seen.all(new StackReal()));
        checks.due(what + ": await() of a new object", fresh.await(), 0);
    }

    private static void emptyStack() {
        StackReal s = new StackReal();
        checks.due("depth()", s.depth(), 0);
        for (int i = 0; i < 8; i++) {
            int place = i;
            checks.illegal("kind(" + i + ")", () -> s.kind(place));
        }
        checks.due("DROP", s.operate(Bench.DROP, 0), Bench.INVALID);
    }

    private static void emptyMemory() {
        StackReal s = new StackReal();
        for (int cell = 0; cell < 8; cell++) {
            checks.due("memory(" + cell + ")", s.memory(cell), 0);
        }
        s.pass(1000);
        for (int cell = 0; cell < 8; cell++) {
            checks.due("memory(" + cell + ") later", s.memory(cell), 0);
        }
    }

    private static void notBusy() {
        checks.due("await()", new StackReal().await(), 0);
        StackReal s = new StackReal();
        s.operate(Bench.ONE, 0);
        checks.due("time() of the first operation", s.time(), 0);
    }

    private static void controls() {
        int[] precisions = {24, 53, 64};
        for (int precision : precisions) {
            for (int rounding = 0; rounding < 4; rounding++) {
                for (int mask = 0; mask < 32; mask++) {
                    controls(precision, rounding, mask);
                }
            }
        }
    }

    /** 1/3 shows the precision and whether it is rounded up, -1/3 whether down. */
    private static void controls(int precision, int rounding, int mask) {
        String what = "control(" + precision + ", " + rounding + ", " + mask + ")";
        Bench b = bench().whole(-1).whole(3).whole(1).whole(3).control(precision, rounding, mask);
        if ((mask & Bench.INEXACT) == 0) {
            checks.arithmetic(what + ": 1 / 3", () -> b.s.operate(Bench.DIV, 0));
            return;
        }
        long last = 1L << (64 - precision);
        long down = 0xAAAAAAAAAAAAAAAAL & -last;
        // The nearer one is above where the next bit is a 1, that is where the last one kept is a 0.
        boolean isNearerUp = (down & last) == 0;
        boolean isUp = rounding == 2 || rounding == 0 && isNearerUp;
        b.s.operate(Bench.DIV, 0);
        b.top(what + ": 1 / 3", 1, -2, isUp ? down + last : down);
        b.s.operate(Bench.DROP, 0);
        b.s.operate(Bench.DIV, 0);
        boolean isAway = rounding == 1 || rounding == 0 && isNearerUp;
        b.top(what + ": -1 / 3", 5, -2, isAway ? down + last : down);
    }

    private static void noPrecision() {
        int[] none = {Integer.MIN_VALUE, -64, -53, -24, -1, 0, 1, 23, 25, 32, 52, 54, 63, 65, 128, Integer.MAX_VALUE};
        for (int precision : none) {
            refusedControl(precision, 0, 31);
        }
    }

    private static void noRounding() {
        int[] none = {Integer.MIN_VALUE, -1, 4, 5, 256, Integer.MAX_VALUE};
        for (int rounding : none) {
            refusedControl(64, rounding, 31);
        }
    }

    private static void noMask() {
        int[] none = {Integer.MIN_VALUE, -1, 32, 33, 63, 256, Integer.MAX_VALUE};
        for (int mask : none) {
            refusedControl(64, 0, mask);
        }
    }

    /** The control that was set before stays whole. */
    private static void refusedControl(int precision, int rounding, int mask) {
        String what = "control(" + precision + ", " + rounding + ", " + mask + ")";
        refused(what, s -> s.control(precision, rounding, mask));
        Bench b = bench().control(24, 2, 29).whole(-1).whole(3);
        checks.illegal(what, () -> b.s.control(precision, rounding, mask));
        b.gives("-1 / 3 after " + what, Bench.DIV, Bench.INEXACT).top("24 bits, the one above", 5, -2, 0xAAAAAA0000000000L);
        b.whole(0);
        checks.arithmetic("DIVIDED after " + what, () -> b.s.operate(Bench.DIV, 0));
    }

    private static void iOfNoMatter() {
        int[] any = {Integer.MIN_VALUE, -1, 0, 7, 8, Integer.MAX_VALUE};
        for (int operation = 0; operation < 16; operation++) {
            if (operation != Bench.EXCHANGE && operation != Bench.COPY) {
                StackReal first = bench().whole(8).whole(4).s;
                first.operate(operation, 3);
                for (int i : any) {
                    StackReal s = bench().whole(8).whole(4).s;
                    checks.due("operate(" + operation + ", " + i + ")", s.operate(operation, i), 0);
                    checks.due("what is seen", Seen.all(s), Seen.all(first));
                }
            }
        }
        StackReal eight = bench().whole(1).whole(2).whole(3).whole(4).whole(5).whole(6).whole(7).whole(8).s;
        for (int i = 0; i < 8; i++) {
            checks.due("operate(10, " + i + ")", eight.operate(10, i), 0);
        }
    }

    /** Not those that were set before; but its own, also where they were set before. */
    private static void operateAnswers() {
        Bench b = bench().whole(1).whole(0);
        checks.due("DIVIDED", b.s.operate(Bench.DIV, 0), Bench.DIVIDED);
        checks.due("nothing", b.s.operate(Bench.NEGATE, 0), 0);
        b.whole(1).whole(3);
        checks.due("INEXACT", b.s.operate(Bench.DIV, 0), Bench.INEXACT);
        b.whole(3);
        checks.due("INEXACT again", b.s.operate(Bench.DIV, 0), Bench.INEXACT);
        checks.due("flags()", b.s.flags(), Bench.DIVIDED | Bench.INEXACT);
        checks.due("both at once", bench().finite(false, 16383, TOP).whole(2).s.operate(Bench.MUL, 0), Bench.OVERFLOW | Bench.INEXACT);
        checks.due("both at once", bench().finite(false, -16382, TOP).whole(2).s.operate(Bench.DIV, 0), Bench.UNDERFLOW | Bench.INEXACT);
    }

    private static void noOperation() {
        int[] none = {Integer.MIN_VALUE, -16, -1, 16, 17, 256, Integer.MAX_VALUE};
        for (int operation : none) {
            refused("operate(" + operation + ", 0)", s -> s.operate(operation, 0));
        }
    }

    private static void noPlace() {
        int[] none = {Integer.MIN_VALUE, -8, -1, 8, 9, 256, Integer.MAX_VALUE};
        for (int i : none) {
            refused("operate(10, " + i + ")", s -> s.operate(10, i));
            refused("operate(11, " + i + ")", s -> s.operate(11, i));
        }
        // 0 .. 7 are places even where no real is: that is INVALID.
        for (int i = 0; i < 8; i++) {
            checks.due("operate(10, " + i + ") of nothing", new StackReal().operate(10, i), Bench.INVALID);
            checks.due("operate(11, " + i + ") of nothing", new StackReal().operate(11, i), Bench.INVALID);
        }
    }

    private static void operateUnmasked() {
        for (int mask = 0; mask < 32; mask++) {
            StackReal s = bench().whole(1).whole(0).control(64, 0, mask).s;
            if ((mask & Bench.DIVIDED) == 0) {
                checks.arithmetic("1 / 0, mask " + mask, () -> s.operate(Bench.DIV, 0));
            } else {
                checks.fine("1 / 0, mask " + mask, () -> s.operate(Bench.DIV, 0));
            }
        }
    }

    private static void loadAnswers() {
        StackReal s = new StackReal();
        s.write(1, 10);
        checks.due("no decimal", s.load(1, Bench.DECIMAL), Bench.INVALID);
        checks.due("no decimal again", s.load(1, Bench.DECIMAL), Bench.INVALID);
        for (int form = 0; form < 3; form++) {
            checks.due("form " + form + ", with a flag set before", s.load(1, form), 0);
        }
        checks.due("flags()", s.flags(), Bench.INVALID);
        for (int n = 5; n < 8; n++) {
            s.load(0, 0);
        }
        checks.due("on a full stack", s.load(0, 0), Bench.INVALID);
        for (int cell = 0; cell < 8; cell++) {
            Bench b = bench();
            b.s.write(cell, 20 + cell);
            checks.due("load(" + cell + ", 0)", b.s.load(cell, 0), 0);
            b.is("cell " + cell, 20 + cell);
        }
    }

    private static void noLoad() {
        for (int cell : NO_CELL) {
            for (int form = 0; form < 4; form++) {
                int any = form;
                refused("load(" + cell + ", " + form + ")", s -> s.load(cell, any));
            }
        }
        for (int form : NO_FORM) {
            refused("load(0, " + form + ")", s -> s.load(0, form));
            refused("load(7, " + form + ")", s -> s.load(7, form));
        }
    }

    private static void loadUnmasked() {
        for (int mask = 0; mask < 32; mask++) {
            StackReal s = new StackReal();
            s.control(64, 0, mask);
            s.write(0, 15);
            if ((mask & Bench.INVALID) == 0) {
                checks.arithmetic("no decimal, mask " + mask, () -> s.load(0, Bench.DECIMAL));
            } else {
                checks.fine("no decimal, mask " + mask, () -> s.load(0, Bench.DECIMAL));
            }
        }
    }

    private static void storeAnswers() {
        Bench b = bench().whole(7).dbl(0.5).dbl(0.25).nan();
        checks.due("INVALID", b.s.store(0, Bench.WHOLE), Bench.INVALID);
        checks.due("INEXACT", b.s.store(0, Bench.WHOLE), Bench.INEXACT);
        checks.due("INEXACT again", b.s.store(0, Bench.DECIMAL), Bench.INEXACT);
        checks.due("nothing", b.s.store(0, Bench.SINGLE), 0);
        checks.due("flags()", b.s.flags(), Bench.INVALID | Bench.INEXACT);
        checks.due("two at once", bench().finite(false, 128, TOP).s.store(0, Bench.SINGLE), Bench.OVERFLOW | Bench.INEXACT);
    }

    private static void storeOfNothing() {
        for (int form = 0; form < 4; form++) {
            for (int cell = 0; cell < 8; cell++) {
                StackReal s = new StackReal();
                s.write(cell, 77);
                String before = Seen.butFlagsAndTime(s);
                checks.due("store(" + cell + ", " + form + ")", s.store(cell, form), Bench.INVALID);
                checks.due("flags()", s.flags(), Bench.INVALID);
                s.pass(1000);
                checks.due("what is seen much later", Seen.butFlagsAndTime(s), before);
            }
        }
    }

    private static void noStore() {
        for (int cell : NO_CELL) {
            for (int form = 0; form < 4; form++) {
                int any = form;
                refused("store(" + cell + ", " + form + ")", s -> s.store(cell, any));
            }
        }
        for (int form : NO_FORM) {
            refused("store(0, " + form + ")", s -> s.store(0, form));
            refused("store(7, " + form + ")", s -> s.store(7, form));
        }
    }

    private static void storeUnmasked() {
        for (int mask = 0; mask < 32; mask++) {
            StackReal s = bench().finite(false, 128, TOP).control(64, 0, mask).s;
            int both = Bench.OVERFLOW | Bench.INEXACT;
            if ((mask & both) != both) {
                checks.arithmetic("2^128, mask " + mask, () -> s.store(0, Bench.SINGLE));
            } else {
                checks.fine("2^128, mask " + mask, () -> s.store(0, Bench.SINGLE));
            }
            StackReal empty = new StackReal();
            empty.control(64, 0, mask);
            if ((mask & Bench.INVALID) == 0) {
                checks.arithmetic("nothing, mask " + mask, () -> empty.store(0, 0));
            } else {
                checks.fine("nothing, mask " + mask, () -> empty.store(0, 0));
            }
        }
    }

    private static void writes() {
        StackReal s = used();
        long time = s.time();
        for (int cell = 0; cell < 8; cell++) {
            s.write(cell, -cell - 1);
            checks.due("memory(" + cell + ") at once, while it is busy", s.memory(cell), -cell - 1);
        }
        checks.due("time() after writes", s.time(), time);
        checks.due("await() after writes", s.await(), 10);
        s.write(0, Long.MIN_VALUE);
        checks.due("the least long", s.memory(0), Long.MIN_VALUE);
        s.write(0, Long.MAX_VALUE);
        checks.due("the greatest long", s.memory(0), Long.MAX_VALUE);
    }

    private static void comesLater() {
        for (int passed = 0; passed <= 10; passed++) {
            StackReal s = used();
            s.pass(passed);
            s.write(1, 99);
            checks.due("written after " + passed + " ticks", s.memory(1), 99);
            s.pass(10);
            checks.due("later, written after " + passed + " ticks", s.memory(1), passed < 10 ? 4 : 99);
        }
        StackReal other = used();
        other.write(2, 99);
        other.pass(10);
        checks.due("another cell keeps what is written", other.memory(2), 99);
    }

    private static void noWrite() {
        for (int cell : NO_CELL) {
            refused("write(" + cell + ", 5)", s -> s.write(cell, 5));
        }
    }

    private static void holdsNow() {
        StackReal s = used();
        checks.due("before the store is over", s.memory(1), 11);
        s.pass(9);
        checks.due("one tick before", s.memory(1), 11);
        s.pass(1);
        checks.due("when it is over", s.memory(1), 4);
        long time = s.time();
        s.memory(0);
        s.memory(7);
        checks.due("a look takes no time", s.time(), time);
    }

    private static void noMemory() {
        for (int cell : NO_CELL) {
            refused("memory(" + cell + ")", s -> s.memory(cell));
        }
    }

    private static void passes() {
        int[] ticks = {0, 1, 2, 999, 1000};
        for (int n : ticks) {
            StackReal s = new StackReal();
            s.pass(n);
            checks.due("time() after pass(" + n + ")", s.time(), n);
            s.pass(n);
            checks.due("time() after pass(" + n + ") twice", s.time(), 2 * n);
        }
        StackReal busy = new StackReal();
        busy.operate(Bench.DIV, 0);
        busy.pass(0);
        checks.due("await() after pass(0)", busy.await(), 20);
        busy.operate(Bench.DIV, 0);
        busy.pass(19);
        checks.due("await() after pass(19)", busy.await(), 1);
        busy.operate(Bench.DIV, 0);
        busy.pass(1000);
        checks.due("await() after pass(1000)", busy.await(), 0);
        checks.due("time() at last", busy.time(), 20 + 20 + 1000);
    }

    private static void noPass() {
        int[] none = {Integer.MIN_VALUE, -1000, -1, 1001, 1002, 65536, Integer.MAX_VALUE};
        for (int n : none) {
            refused("pass(" + n + ")", s -> s.pass(n));
        }
    }

    private static void awaits() {
        StackReal s = new StackReal();
        checks.due("of a new object", s.await(), 0);
        for (int passed = 0; passed <= 21; passed++) {
            s.operate(Bench.SQRT, 0);
            s.pass(passed);
            long time = s.time();
            int left = passed < 20 ? 20 - passed : 0;
            checks.due(passed + " ticks after a SQRT", s.await(), left);
            checks.due("time() then", s.time(), time + left);
            checks.due("again", s.await(), 0);
        }
        StackReal storing = used();
        checks.due("with a store under way", storing.await(), 10);
        checks.due("it is over", storing.memory(1), 4);
    }

    private static void times() {
        StackReal s = new StackReal();
        for (int n = 1; n <= 500; n++) {
            s.pass(1000);
        }
        checks.due("time() after 500 times 1000", s.time(), 500000);
        checks.due("time() takes no time", s.time(), 500000);
        StackReal busy = new StackReal();
        busy.operate(Bench.ONE, 0);
        checks.due("time() while busy", busy.time(), 0);
        busy.operate(Bench.ONE, 0);
        checks.due("time() after a wait", busy.time(), 2);
    }

    private static void allFlags() {
        Bench b = bench().whole(1).whole(0);
        b.s.operate(Bench.DIV, 0);
        checks.due("DIVIDED", b.s.flags(), 2);
        b.s.operate(Bench.ADD, 0);
        checks.due("and INVALID", b.s.flags(), 3);
        b.finite(false, 16383, TOP).whole(2);
        b.s.operate(Bench.MUL, 0);
        checks.due("and OVERFLOW and INEXACT", b.s.flags(), 23);
        b.finite(false, -16382, TOP).whole(2);
        b.s.operate(Bench.DIV, 0);
        checks.due("all", b.s.flags(), 31);
        checks.due("a look does not clear them", b.s.flags(), 31);
    }

    private static void clears() {
        StackReal none = new StackReal();
        none.clear();
        checks.due("where none was set", none.flags(), 0);
        Bench b = bench().finite(false, -16382, TOP).whole(2);
        b.s.operate(Bench.DIV, 0);
        b.whole(0);
        b.s.operate(Bench.DIV, 0);
        String before = Seen.butFlagsAndTime(b.s);
        long time = b.s.time();
        b.s.clear();
        checks.due("flags()", b.s.flags(), 0);
        checks.due("what is seen", Seen.butFlagsAndTime(b.s), before);
        checks.due("time()", b.s.time(), time);
        checks.due("await()", b.s.await(), 20);
        checks.due("a flag is set anew", b.s.operate(Bench.EXTRACT, 0), Bench.INVALID);
        checks.due("flags() then", b.s.flags(), Bench.INVALID);
    }

    private static void conditions() {
        Bench b = bench().whole(1).whole(2);
        checks.due("at first", b.s.condition(), 0);
        b.s.operate(Bench.EXCHANGE, 1);
        b.s.operate(Bench.COMPARE, 0);
        checks.due("less", b.s.condition(), 1);
        b.s.operate(Bench.DROP, 0);
        b.s.operate(Bench.COMPARE, 0);
        checks.due("too few: it stays", b.s.condition(), 1);
        b.s.clear();
        b.s.control(24, 1, 31);
        b.s.await();
        checks.due("it stays", b.s.condition(), 1);
        b.s.operate(Bench.COPY, 0);
        b.s.operate(Bench.COMPARE, 0);
        checks.due("equal", b.s.condition(), 2);
        b.nan();
        b.s.operate(Bench.COMPARE, 0);
        checks.due("NAN", b.s.condition(), 3);
        b.s.operate(Bench.DROP, 0);
        b.whole(9);
        b.s.operate(Bench.COMPARE, 0);
        checks.due("greater", b.s.condition(), 0);
    }

    private static void depths() {
        StackReal s = new StackReal();
        for (int n = 0; n < 8; n++) {
            checks.due("depth()", s.depth(), n);
            s.operate(n % 2 == 0 ? Bench.ONE : Bench.ZERO, 0);
        }
        checks.due("depth() of a full stack", s.depth(), 8);
        s.load(0, 0);
        checks.due("depth() after a load too many", s.depth(), 8);
        for (int n = 7; n >= 0; n--) {
            s.store(0, 0);
            checks.due("depth() after a store", s.depth(), n);
        }
        s.store(0, 0);
        checks.due("depth() after a store too many", s.depth(), 0);
    }

    private static Bench eightKinds() {
        return bench().nan().infinite(true).infinite(false).zero(true).zero(false).whole(-6).whole(6).whole(1);
    }

    private static void kinds() {
        int[] due = {1, 1, 5, 0, 4, 2, 6, 3};
        StackReal s = eightKinds().s;
        for (int i = 0; i < 8; i++) {
            checks.due("kind(" + i + ")", s.kind(i), due[i]);
        }
    }

    private static void exponents() {
        int[] due = {0, 2, 2, 0, 0, 0, 0, 0};
        StackReal s = eightKinds().s;
        for (int i = 0; i < 8; i++) {
            checks.due("exponent(" + i + ")", s.exponent(i), due[i]);
        }
        checks.due("the lowest", bench().finite(false, -16382, TOP).s.exponent(0), -16382);
        checks.due("the highest", bench().finite(true, 16383, -1).s.exponent(0), 16383);
        leftBehind((what, b) -> checks.due(what, b.s.exponent(0), 0));
    }

    private static void significands() {
        long[] due = {TOP, 6L << 61, 6L << 61, 0, 0, 0, 0, 0};
        StackReal s = eightKinds().s;
        for (int i = 0; i < 8; i++) {
            checks.due("significand(" + i + ")", s.significand(i), due[i]);
        }
        checks.due("the least", bench().finite(false, 5, TOP).s.significand(0), Long.MIN_VALUE);
        checks.due("the greatest", bench().finite(true, 5, -1).s.significand(0), -1);
        leftBehind((what, b) -> checks.due(what, b.s.significand(0), 0));
    }

    private interface Look {
        void at(String what, Bench b);
    }

    /** Reals that are not finite where finite ones have been. */
    private static void leftBehind(Look look) {
        Bench zero = bench().whole(6).whole(6);
        zero.s.operate(Bench.SUB, 0);
        look.at("a zero", zero);
        Bench infinite = bench().whole(6).whole(0);
        infinite.s.operate(Bench.DIV, 0);
        look.at("an infinite one", infinite);
        Bench nan = bench().whole(-6);
        nan.s.operate(Bench.SQRT, 0);
        look.at("NAN", nan);
        Bench integer = bench().dbl(0.25);
        integer.s.operate(Bench.INTEGER, 0);
        look.at("a zero made whole", integer);
        Bench under = bench().finite(false, -16382, -1).whole(4);
        under.s.operate(Bench.DIV, 0);
        look.at("a number too small", under);
        Bench over = bench().finite(false, 16383, -1).whole(4);
        over.s.operate(Bench.MUL, 0);
        look.at("a number too large", over);
        Bench pushed = bench().finite(false, 7, -1);
        pushed.s.operate(Bench.DROP, 0);
        pushed.s.operate(Bench.ZERO, 0);
        look.at("a zero pushed", pushed);
    }

    private static void noKind() {
        missing((s, i) -> s.kind(i), "kind");
    }

    private static void noExponent() {
        missing((s, i) -> s.exponent(i), "exponent");
    }

    private static void noSignificand() {
        missing((s, i) -> s.significand(i), "significand");
    }

    private interface Asked {
        void of(StackReal s, int i);
    }

    private static void missing(Asked asked, String name) {
        for (int depth = 0; depth <= 8; depth++) {
            StackReal s = new StackReal();
            for (int n = 0; n < depth; n++) {
                s.operate(Bench.ONE, 0);
            }
            String before = Seen.all(s);
            int[] none = {Integer.MIN_VALUE, -1, depth, depth + 1, 8, 9, Integer.MAX_VALUE};
            for (int i : none) {
                checks.illegal(name + "(" + i + ") of " + depth, () -> asked.of(s, i));
            }
            for (int i = 0; i < depth; i++) {
                int place = i;
                checks.fine(name + "(" + i + ") of " + depth, () -> asked.of(s, place));
            }
            checks.due("what is seen", Seen.all(s), before);
        }
        // What has gone from the stack is no STi any more.
        StackReal gone = bench().whole(1).whole(2).s;
        gone.operate(Bench.ADD, 0);
        checks.illegal(name + "(1) after an ADD", () -> asked.of(gone, 1));
        gone.store(0, 0);
        checks.illegal(name + "(0) after a store", () -> asked.of(gone, 0));
    }
}
