import java.util.Random;

/** Runs of calls drawn from a fixed seed, compared with the Model call by call (promises 1 to 17). */
public final class RandomRunsTest {
    private static final int RUNS = 4000;
    private static final int PAIRS = 40000;
    private static final int[] PRECISIONS = {24, 53, 64};

    private final Checks checks = new Checks("RandomRunsTest");
    private final Random random = new Random(20261115);

    public static void main(String[] args) {
        RandomRunsTest test = new RandomRunsTest();
        for (int run = 0; run < RUNS && !test.checks.isFull(); run++) {
            test.mixedRun(run);
        }
        for (int n = 0; n < PAIRS && !test.checks.isFull(); n++) {
            test.operationOnReals(n);
        }
        test.checks.end();
    }

    private void mixedRun(int run) {
        Pair pair = new Pair(checks, "run " + run);
        for (int step = 0; step < 400 && pair.callsMade() < 430; step++) {
            anyCall(pair);
            if (random.nextInt(3) == 0 && pair.depth() > 0) {
                pair.top();
            }
        }
        pair.everything();
    }

    private void anyCall(Pair pair) {
        switch (random.nextInt(20)) {
            case 0 -> pair.control(precision(), random.nextInt(4), random.nextInt(3) > 0 ? 31 : random.nextInt(32));
            case 1 -> oddCall(pair);
            case 2 -> pair.clear();
            case 3 -> pair.pass(random.nextInt(14));
            case 4 -> pair.await();
            case 5 -> pair.memory(random.nextInt(8));
            case 6, 7 -> pair.store(random.nextInt(8), random.nextInt(4));
            case 8 -> pair.load(random.nextInt(8), random.nextInt(4));
            case 9, 10, 11, 12 -> writeAndLoad(pair);
            case 13 -> pair.write(random.nextInt(8), random.nextLong());
            default -> pair.operate(random.nextInt(16), random.nextInt(8));
        }
    }

    private void oddCall(Pair pair) {
        switch (random.nextInt(9)) {
            case 0 -> pair.control(random.nextInt(70), random.nextInt(6) - 1, random.nextInt(34) - 1);
            case 1 -> pair.operate(random.nextInt(20) - 2, random.nextInt(12) - 2);
            case 2 -> pair.load(random.nextInt(12) - 2, random.nextInt(8) - 2);
            case 3 -> pair.store(random.nextInt(12) - 2, random.nextInt(8) - 2);
            case 4 -> pair.write(random.nextInt(12) - 2, 5);
            case 5 -> pair.memory(random.nextInt(12) - 2);
            case 6 -> pair.pass(random.nextInt(5) - 2);
            case 7 -> pair.pass(998 + random.nextInt(5));
            default -> pair.real(random.nextInt(12) - 2);
        }
    }

    private void writeAndLoad(Pair pair) {
        int cell = random.nextInt(8);
        int form = random.nextInt(4);
        pair.write(cell, image(form));
        pair.load(cell, form);
    }

    private long image(int form) {
        return switch (form) {
            case 0 -> whole();
            case 1 -> binary(52, 2047);
            case 2 -> binary(23, 255) | (random.nextInt(3) == 0 ? random.nextLong() << 32 : 0);
            default -> decimal();
        };
    }

    private long whole() {
        return switch (random.nextInt(6)) {
            case 0 -> random.nextInt(7) - 3;
            case 1 -> random.nextInt(80003) - 40001;
            case 2 -> Long.MAX_VALUE - random.nextInt(3);
            case 3 -> Long.MIN_VALUE + random.nextInt(3);
            case 4 -> random.nextLong() >> random.nextInt(64);
            default -> random.nextLong();
        };
    }

    private long binary(int width, int full) {
        int field = switch (random.nextInt(8)) {
            case 0 -> 0;
            case 1 -> full;
            case 2 -> 1 + random.nextInt(3);
            case 3 -> full - 1 - random.nextInt(3);
            case 4 -> random.nextInt(full + 1);
            default -> full / 2 - 5 + random.nextInt(70);
        };
        long mask = (1L << width) - 1;
        long fraction = switch (random.nextInt(4)) {
            case 0 -> 0;
            case 1 -> mask;
            case 2 -> (long) random.nextInt(8) << (width - 3);
            default -> random.nextLong() & mask;
        };
        long sign = random.nextInt(2);
        return ((sign * (full + 1L)) + Math.min(field, full) << width) + fraction;
    }

    private long decimal() {
        long image = (long) random.nextInt(2) << 60;
        boolean nines = random.nextInt(6) == 0;
        int places = random.nextInt(16);
        for (int place = 0; place < places; place++) {
            image |= (long) (nines ? 9 : random.nextInt(10)) << (4 * place);
        }
        return random.nextInt(6) == 0 ? image ^ (1L << random.nextInt(64)) : image;
    }

    /** One operation or store on two reals with all 64 bits and any exponents. */
    private void operationOnReals(int n) {
        Pair pair = new Pair(checks, "reals " + n);
        int exponent = exponent();
        long bits = bits();
        pushReal(pair, random.nextBoolean(), exponent, bits);
        boolean near = random.nextInt(3) > 0;
        int second = near ? clamp(exponent + random.nextInt(140) - 70) : exponent();
        pushReal(pair, random.nextBoolean(), second, random.nextInt(3) == 0 ? bits + random.nextInt(3) - 1 | 1L << 63 : bits());
        pair.control(precision(), random.nextInt(4), 31);
        switch (random.nextInt(8)) {
            case 0, 1, 2 -> pair.operate(random.nextInt(2), 0);
            case 3 -> pair.operate(2, 0);
            case 4 -> pair.operate(3, 0);
            case 5 -> pair.operate(4, 0);
            case 6 -> pair.store(0, random.nextInt(4));
            default -> pair.operate(5 + random.nextInt(9), 1);
        }
        pair.await();
        pair.everything();
    }

    private void pushReal(Pair pair, boolean negative, int exponent, long bits) {
        pair.write(7, 32);
        pair.load(7, 0);
        pair.write(7, bits >>> 32);
        pair.load(7, 0);
        pair.operate(6, 0);
        pair.operate(10, 1);
        pair.operate(12, 0);
        pair.write(7, bits & 0xFFFFFFFFL);
        pair.load(7, 0);
        pair.operate(0, 0);
        pair.write(7, exponent - 63);
        pair.load(7, 0);
        pair.operate(10, 1);
        pair.operate(6, 0);
        pair.operate(10, 1);
        pair.operate(12, 0);
        if (negative) {
            pair.operate(9, 0);
        }
    }

    private int exponent() {
        return switch (random.nextInt(6)) {
            case 0 -> 16383 - random.nextInt(70);
            case 1 -> -16382 + random.nextInt(70);
            case 2 -> clamp((random.nextBoolean() ? 1 : -1) * 1022 + random.nextInt(7) - 3);
            case 3 -> (random.nextBoolean() ? 1 : -1) * 126 + random.nextInt(7) - 3;
            case 4 -> clamp((random.nextBoolean() ? 8191 : -8191) + random.nextInt(5) - 2);
            default -> random.nextInt(80) - 10;
        };
    }

    private static int clamp(int exponent) {
        return Math.max(-16382, Math.min(16383, exponent));
    }

    private long bits() {
        long top = 1L << 63;
        return top | switch (random.nextInt(7)) {
            case 0 -> 0;
            case 1 -> -1L;
            case 2 -> -1L << random.nextInt(64);
            case 3 -> 1L << random.nextInt(64);
            case 4 -> random.nextLong() << random.nextInt(64);
            case 5 -> random.nextLong() >>> random.nextInt(64);
            default -> random.nextLong();
        };
    }

    private int precision() {
        return PRECISIONS[random.nextInt(3)];
    }
}
