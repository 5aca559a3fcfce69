import java.math.BigInteger;

/** What 64 bits keep of a whole number that has more of them. */
final class Wide {
    /** Ends, patterns, and bits of no special kind; the highest bit of each is 1. */
    static final long[] SIGNIFICANDS = {
        Bench.TOP, Bench.TOP | 1, Bench.TOP | 3, Bench.TOP | 1L << 32, 0xAAAAAAAAAAAAAAABL, 0xB504F333F9DE6485L,
        0xB504F333F9DE6484L, 0xC000000000000001L, 0xCCCCCCCCCCCCCCCDL, 0x9E3779B97F4A7C15L, 0xFFFFFFFF00000001L, -5, -2, -1};

    private Wide() {
    }

    static BigInteger unsigned(long bits) {
        return new BigInteger(Long.toHexString(bits), 16);
    }

    /**
     * Checks that ST0 is a positive number of more than 64 bits, rounded to them. The exponent is
     * that of the highest bit; hasMore says whether the number goes on below the lowest one.
     */
    static void isRounded(Bench b, String what, BigInteger number, boolean hasMore, int exponent, int rounding) {
        int lost = number.bitLength() - 64;
        BigInteger kept = number.shiftRight(lost);
        BigInteger rest = number.subtract(kept.shiftLeft(lost));
        boolean exact = rest.signum() == 0 && !hasMore;
        int toHalf = rest.compareTo(BigInteger.ONE.shiftLeft(lost - 1));
        boolean nearerUp = toHalf > 0 || toHalf == 0 && (hasMore || kept.testBit(0));
        if (!exact && (rounding == 2 || rounding == 0 && nearerUp)) {
            kept = kept.add(BigInteger.ONE);
        }
        boolean carried = kept.bitLength() > 64;
        b.top(what, 1, carried ? exponent + 1 : exponent, carried ? Bench.TOP : kept.longValue());
    }
}
