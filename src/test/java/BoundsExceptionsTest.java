/** Boundary cases, sentence by sentence: EXCEPTIONS and BUSY. */
public final class BoundsExceptionsTest {
    private static final Checks checks = new Checks("BoundsExceptionsTest");
    private static final long TOP = Bench.TOP;
    private static final int OVER = Bench.OVERFLOW | Bench.INEXACT;
    private static final int UNDER = Bench.UNDERFLOW | Bench.INEXACT;
    private static final int[] TICKS = {8, 8, 12, 20, 20, 6, 6, 6, 2, 2, 2, 2, 2, 2, 2, 2};

    public static void main(String[] args) {
        checks.sentence("EXCEPTIONS", "Each sets its flag.", BoundsExceptionsTest::eachSetsItsFlag);
        checks.sentence("EXCEPTIONS", "When one of them is not masked, the call throws", BoundsExceptionsTest::oneIsEnough);
        checks.sentence("EXCEPTIONS, of operate", "then only the flags [..] and the busy time have changed", BoundsExceptionsTest::operateThrows);
        checks.sentence("EXCEPTIONS, of load", "then only the flags [..] and the busy time have changed", BoundsExceptionsTest::loadThrows);
        checks.sentence("EXCEPTIONS, of store", "then only the flags [..] and the busy time have changed", BoundsExceptionsTest::storeThrows);
        checks.sentence("EXCEPTIONS", "the flags (of all its exceptions)", BoundsExceptionsTest::flagsOfAll);
        checks.sentence("BUSY", "Each operation takes TICKS: 0, 1: 8; 2: 12; 3: 20; 4: 20; 5, 6, 7: 6; 8 to 15: 2", BoundsExceptionsTest::ticks);
        checks.sentence("BUSY", "LOAD 4", BoundsExceptionsTest::loadTicks);
        checks.sentence("BUSY", "STORE 10", BoundsExceptionsTest::storeTicks);
        checks.sentence("BUSY, of one where nothing else happens", "Each operation takes TICKS", BoundsExceptionsTest::ticksOfInvalid);
        checks.sentence("BUSY, of one that throws", "Each operation takes TICKS", BoundsExceptionsTest::ticksOfThrowing);
        checks.sentence("BUSY", "When the coprocessor is busy at the call, the time goes on first until it is not.", BoundsExceptionsTest::waitsFirst);
        checks.sentence("BUSY", "Then it is busy for so many ticks.", BoundsExceptionsTest::thenIsBusy);
        checks.sentence("BUSY", "What STORE writes is in memory when that time is over", BoundsExceptionsTest::storedWhenOver);
        checks.sentence("BUSY", "everything else is at once", BoundsExceptionsTest::atOnce);
        checks.sentence("BUSY", "A LOAD sees memory as it is when its turn has come.", BoundsExceptionsTest::loadSees);
        checks.end();
    }

    private static Bench bench() {
        return new Bench(checks);
    }

    private static void eachSetsItsFlag() {
        sets("INVALID", bench().zero(false).zero(false), 1);
        sets("DIVIDED", bench().whole(1).zero(false), 2);
        sets("OVERFLOW", bench().finite(false, 16383, TOP).dbl(0.5), OVER);
        sets("UNDERFLOW", bench().finite(false, -16382, TOP).whole(2), UNDER);
        sets("INEXACT", bench().whole(1).whole(3), 16);
        sets("none", bench().whole(6).whole(3), 0);
        for (int mask = 0; mask < 32; mask++) {
            StackReal s = new StackReal();
            s.control(64, 0, mask);
            throwsOrNot("DROP of nothing, mask " + mask, s, Bench.DROP, (mask & Bench.INVALID) == 0);
            checks.due("flags(), masked or not, mask " + mask, s.flags(), Bench.INVALID);
        }
    }

    private static void sets(String what, Bench b, int due) {
        checks.due(what + ": DIV", b.s.operate(Bench.DIV, 0), due);
        checks.due(what + ": flags()", b.s.flags(), due);
    }

    /** Of two exceptions either one that is not masked makes it throw; flags set before do not. */
    private static void oneIsEnough() {
        for (int mask = 0; mask < 32; mask++) {
            StackReal over = bench().finite(false, 16383, TOP).whole(2).control(64, 0, mask).s;
            throwsOrNot("OVERFLOW and INEXACT, mask " + mask, over, Bench.MUL, (OVER & ~mask) != 0);
            StackReal under = bench().finite(false, -16382, TOP).whole(2).control(64, 0, mask).s;
            throwsOrNot("UNDERFLOW and INEXACT, mask " + mask, under, Bench.DIV, (UNDER & ~mask) != 0);
            StackReal none = bench().whole(6).whole(2).control(64, 0, mask).s;
            throwsOrNot("no exception, mask " + mask, none, Bench.DIV, false);
        }
        StackReal before = bench().whole(1).whole(0).s;
        before.operate(Bench.DIV, 0);
        before.control(64, 0, 0);
        throwsOrNot("a flag that was set before", before, Bench.NEGATE, false);
    }

    private static void throwsOrNot(String what, StackReal s, int operation, boolean isThrown) {
        if (isThrown) {
            checks.arithmetic(what, () -> s.operate(operation, 0));
        } else {
            checks.fine(what, () -> s.operate(operation, 0));
        }
    }

    private static void operateThrows() {
        keeps("ADD, INVALID", bench().infinite(false).infinite(true), Bench.ADD, 0, 1);
        keeps("ADD, OVERFLOW", bench().finite(false, 16383, -1).finite(false, 16383, -1), Bench.ADD, 0, OVER);
        keeps("SUB, INEXACT", bench().whole(1).finite(false, -100, TOP), Bench.SUB, 0, 16);
        keeps("SUB, UNDERFLOW", bench().finite(false, -16382, -1).finite(false, -16382, -2), Bench.SUB, 0, UNDER);
        keeps("MUL, INVALID", bench().zero(true).infinite(true), Bench.MUL, 0, 1);
        keeps("MUL, UNDERFLOW", bench().finite(true, -9000, TOP).finite(false, -9000, TOP), Bench.MUL, 0, UNDER);
        keeps("DIV, DIVIDED", bench().whole(1).zero(true), Bench.DIV, 0, 2);
        keeps("DIV, INVALID", bench().zero(true).zero(true), Bench.DIV, 0, 1);
        keeps("SQRT, INVALID", bench().whole(-4), Bench.SQRT, 0, 1);
        keeps("SQRT, INEXACT", bench().whole(2), Bench.SQRT, 0, 16);
        keeps("INTEGER, INEXACT", bench().dbl(-0.5), Bench.INTEGER, 0, 16);
        keeps("SCALE, INVALID", bench().dbl(0.5).whole(3), Bench.SCALE, 0, 1);
        keeps("SCALE, OVERFLOW", bench().whole(40000).whole(3), Bench.SCALE, 0, OVER);
        keeps("EXTRACT, another kind", bench().zero(true), Bench.EXTRACT, 0, 1);
        keeps("EXTRACT, no room", full(), Bench.EXTRACT, 0, 1);
        keeps("COMPARE, NAN", bench().whole(1).nan(), Bench.COMPARE, 0, 1);
        keeps("EXCHANGE, too few", bench().whole(1), Bench.EXCHANGE, 1, 1);
        keeps("COPY, too few", bench().whole(1), Bench.COPY, 1, 1);
        keeps("COPY, full", full(), Bench.COPY, 7, 1);
        keeps("ONE, full", full(), Bench.ONE, 0, 1);
        keeps("ZERO, full", full(), Bench.ZERO, 0, 1);
        for (int operation = 0; operation <= Bench.COMPARE; operation++) {
            keeps("operation " + operation + ", nothing there", bench(), operation, 0, 1);
        }
    }

    private static Bench full() {
        Bench b = bench();
        for (int n = 1; n <= 8; n++) {
            b.whole(n);
        }
        return b;
    }

    private static void keeps(String what, Bench b, int operation, int i, int flags) {
        StackReal s = b.s;
        s.await();
        s.write(2, 77);
        s.control(64, 0, 0);
        String before = Seen.butFlagsAndTime(s);
        long time = s.time();
        checks.arithmetic(what, () -> s.operate(operation, i));
        checks.due(what + ": what is seen", Seen.butFlagsAndTime(s), before);
        checks.due(what + ": flags()", s.flags(), flags);
        checks.due(what + ": time()", s.time(), time);
        checks.due(what + ": await()", s.await(), TICKS[operation]);
        checks.due(what + ": what is seen when the time is over", Seen.butFlagsAndTime(s), before);
    }

    private static void loadThrows() {
        loadKeeps("no decimal", bench(), 10, Bench.DECIMAL);
        loadKeeps("no decimal, room for one", drop(full()), -1, Bench.DECIMAL);
        loadKeeps("full", full(), 5, Bench.WHOLE);
        loadKeeps("full and no decimal", full(), 10, Bench.DECIMAL);
    }

    private static Bench drop(Bench b) {
        b.s.operate(Bench.DROP, 0);
        return b;
    }

    private static void loadKeeps(String what, Bench b, long image, int form) {
        StackReal s = b.s;
        s.await();
        s.write(2, image);
        s.control(64, 0, 30);
        String before = Seen.butFlagsAndTime(s);
        checks.arithmetic(what, () -> s.load(2, form));
        checks.due(what + ": what is seen", Seen.butFlagsAndTime(s), before);
        checks.due(what + ": flags()", s.flags(), 1);
        checks.due(what + ": await()", s.await(), 4);
    }

    private static void storeThrows() {
        storeKeeps("WHOLE, INEXACT", bench().dbl(0.5), Bench.WHOLE, 16);
        storeKeeps("WHOLE, too large", bench().finite(false, 63, TOP), Bench.WHOLE, 1);
        storeKeeps("WHOLE, NAN", bench().nan(), Bench.WHOLE, 1);
        storeKeeps("DECIMAL, INEXACT", bench().dbl(0.5), Bench.DECIMAL, 16);
        storeKeeps("DECIMAL, too large", bench().dbl(999999999999999.5), Bench.DECIMAL, 1);
        storeKeeps("DECIMAL, infinite", bench().infinite(true), Bench.DECIMAL, 1);
        storeKeeps("DOUBLE, INEXACT", bench().finite(false, 0, -1), Bench.DOUBLE, 16);
        storeKeeps("DOUBLE, OVERFLOW", bench().finite(false, 1024, TOP), Bench.DOUBLE, OVER);
        storeKeeps("DOUBLE, UNDERFLOW", bench().finite(false, -1023, TOP), Bench.DOUBLE, UNDER);
        storeKeeps("SINGLE, OVERFLOW", bench().finite(true, 128, TOP), Bench.SINGLE, OVER);
        storeKeeps("SINGLE, UNDERFLOW", bench().finite(true, -127, TOP), Bench.SINGLE, UNDER);
        storeKeeps("nothing to store", bench(), Bench.DOUBLE, 1);
    }

    private static void storeKeeps(String what, Bench b, int form, int flags) {
        StackReal s = b.s;
        s.await();
        s.write(2, 77);
        s.control(64, 0, 0);
        String before = Seen.butFlagsAndTime(s);
        checks.arithmetic(what, () -> s.store(2, form));
        checks.due(what + ": what is seen", Seen.butFlagsAndTime(s), before);
        checks.due(what + ": flags()", s.flags(), flags);
        checks.due(what + ": await()", s.await(), 10);
        s.pass(1000);
        checks.due(what + ": what is seen much later", Seen.butFlagsAndTime(s), before);
    }

    /** The masked ones among them as well, and those that were set before stay. */
    private static void flagsOfAll() {
        int[] masks = {Bench.OVERFLOW, Bench.INEXACT, 0};
        for (int mask : masks) {
            StackReal s = bench().finite(false, 16383, TOP).whole(2).s;
            s.control(64, 0, mask);
            checks.arithmetic("OVERFLOW, mask " + mask, () -> s.operate(Bench.MUL, 0));
            checks.due("flags(), mask " + mask, s.flags(), OVER);
        }
        StackReal later = bench().whole(1).whole(0).s;
        later.operate(Bench.DIV, 0);
        later.control(64, 0, 0);
        checks.arithmetic("too few", () -> later.operate(Bench.ADD, 0));
        checks.due("flags() with the one set before", later.flags(), Bench.DIVIDED | Bench.INVALID);
        StackReal stored = bench().finite(false, -1023, TOP).control(64, 0, Bench.INEXACT).s;
        checks.arithmetic("a store", () -> stored.store(0, Bench.DOUBLE));
        checks.due("flags() of the store", stored.flags(), UNDER);
    }

    private static void ticks() {
        for (int operation = 0; operation < 16; operation++) {
            StackReal s = bench().whole(8).whole(4).s;
            s.await();
            checks.due("operation " + operation, s.operate(operation, 0), 0);
            checks.due("its ticks", s.await(), TICKS[operation]);
        }
    }

    private static void loadTicks() {
        for (int form = 0; form < 4; form++) {
            StackReal s = new StackReal();
            s.load(0, form);
            checks.due("form " + form, s.await(), 4);
        }
    }

    private static void storeTicks() {
        for (int form = 0; form < 4; form++) {
            StackReal s = new StackReal();
            s.operate(Bench.ONE, 0);
            s.await();
            s.store(0, form);
            checks.due("form " + form, s.await(), 10);
        }
    }

    private static void ticksOfInvalid() {
        StackReal empty = new StackReal();
        for (int operation = 0; operation <= Bench.COMPARE; operation++) {
            empty.operate(operation, 0);
            checks.due("operation " + operation + " on an empty stack", empty.await(), TICKS[operation]);
        }
        empty.store(0, 0);
        checks.due("a store of nothing", empty.await(), 10);
        StackReal full = full().s;
        int[] growing = {Bench.EXTRACT, Bench.COPY, Bench.ONE, Bench.ZERO};
        for (int operation : growing) {
            full.await();
            full.operate(operation, 0);
            checks.due("operation " + operation + " on a full stack", full.await(), TICKS[operation]);
        }
        full.load(0, 0);
        checks.due("a load on a full stack", full.await(), 4);
    }

    private static void ticksOfThrowing() {
        StackReal s = new StackReal();
        s.control(64, 0, 0);
        checks.arithmetic("DIV", () -> s.operate(Bench.DIV, 0));
        checks.due("time() at once", s.time(), 0);
        checks.arithmetic("the next one, which waits", () -> s.operate(Bench.MUL, 0));
        checks.due("time() then", s.time(), 20);
        checks.arithmetic("a store, which waits", () -> s.store(0, 0));
        checks.due("time() then", s.time(), 32);
        checks.due("await()", s.await(), 10);
    }

    private static void waitsFirst() {
        for (int passed = 0; passed <= 21; passed++) {
            int left = passed < 20 ? 20 - passed : 0;
            StackReal operating = busyFor20(passed);
            operating.operate(Bench.ONE, 0);
            checks.due("time() of an operation " + passed + " ticks later", operating.time(), passed + left);
            StackReal loading = busyFor20(passed);
            loading.load(0, 0);
            checks.due("time() of a load " + passed + " ticks later", loading.time(), passed + left);
            StackReal storing = busyFor20(passed);
            storing.store(0, 0);
            checks.due("time() of a store " + passed + " ticks later", storing.time(), passed + left);
        }
    }

    private static StackReal busyFor20(int passed) {
        StackReal s = new StackReal();
        s.operate(Bench.DIV, 0);
        s.pass(passed);
        return s;
    }

    private static void thenIsBusy() {
        StackReal s = new StackReal();
        s.operate(Bench.DIV, 0);
        s.operate(Bench.MUL, 0);
        checks.due("time() of the second", s.time(), 20);
        checks.due("it is busy from then on", s.await(), 12);
        checks.due("time() when it is over", s.time(), 32);
        s.pass(100);
        s.load(0, 0);
        checks.due("after a pause it is busy from the call on", s.await(), 4);
        s.operate(Bench.ONE, 0);
        s.pass(1);
        checks.due("one tick is left of two", s.await(), 1);
        checks.due("none is left", s.await(), 0);
    }

    private static void storedWhenOver() {
        for (int passed = 0; passed <= 11; passed++) {
            StackReal s = storing();
            s.pass(passed);
            checks.due("memory(3) after " + passed + " ticks", s.memory(3), passed < 10 ? 7 : 5);
        }
        StackReal inSteps = storing();
        for (int passed = 1; passed <= 10; passed++) {
            inSteps.pass(1);
            checks.due("memory(3) after " + passed + " single ticks", inSteps.memory(3), passed < 10 ? 7 : 5);
        }
        StackReal awaited = storing();
        awaited.await();
        checks.due("memory(3) after await()", awaited.memory(3), 5);
        StackReal followed = storing();
        followed.operate(Bench.ONE, 0);
        checks.due("memory(3) when the next operation has begun", followed.memory(3), 5);
        StackReal twice = bench().whole(6).whole(5).s;
        twice.store(3, 0);
        twice.store(3, 0);
        checks.due("memory(3) when a second store has begun", twice.memory(3), 5);
        twice.pass(9);
        checks.due("memory(3) while it lasts", twice.memory(3), 5);
        twice.pass(1);
        checks.due("memory(3) when it is over", twice.memory(3), 6);
        StackReal thrown = storing();
        thrown.control(64, 0, 0);
        checks.arithmetic("one that throws behind a store", () -> thrown.operate(Bench.ADD, 0));
        checks.due("memory(3) is stored all the same", thrown.memory(3), 5);
    }

    /** 5 is about to come into cell 3, where a 7 is. */
    private static StackReal storing() {
        StackReal s = bench().whole(5).s;
        s.await();
        s.write(3, 7);
        s.store(3, 0);
        return s;
    }

    private static void atOnce() {
        Bench b = bench().whole(1).whole(3);
        b.s.await();
        long time = b.s.time();
        checks.due("DIV", b.s.operate(Bench.DIV, 0), Bench.INEXACT);
        b.depth("DIV", 1).top("DIV", 1, -2, 0xAAAAAAAAAAAAAAABL);
        checks.due("flags()", b.s.flags(), Bench.INEXACT);
        checks.due("time()", b.s.time(), time);
        Bench compared = bench().whole(2).whole(1);
        compared.s.operate(Bench.COMPARE, 0);
        checks.due("condition()", compared.s.condition(), 1);
        Bench stored = bench().whole(4).dbl(0.5);
        stored.s.store(0, 0);
        stored.depth("what is stored has gone", 1).is("what was below", 4);
        checks.due("flags() of the store", stored.s.flags(), Bench.INEXACT);
        Bench loaded = bench();
        loaded.s.write(0, 9);
        loaded.s.load(0, 0);
        loaded.is("what is loaded", 9);
        checks.due("time() of the load", loaded.s.time(), 0);
    }

    private static void loadSees() {
        Bench stored = bench().whole(5);
        stored.s.store(3, 0);
        stored.s.load(3, 0);
        stored.is("what was stored before it", 5);
        Bench overwritten = bench().whole(5);
        overwritten.s.store(3, 0);
        overwritten.s.write(3, 8);
        overwritten.s.load(3, 0);
        overwritten.is("the store comes later than the write", 5);
        Bench waiting = bench();
        waiting.s.operate(Bench.DIV, 0);
        waiting.s.write(3, 6);
        waiting.s.load(3, 0);
        waiting.s.write(3, 9);
        waiting.is("not what is written later", 6);
        Bench other = bench().whole(5);
        other.s.store(3, 0);
        other.s.write(4, 2);
        other.s.load(4, 0);
        other.is("another cell", 2);
        checks.due("the store is there as well", other.s.memory(3), 5);
    }
}
