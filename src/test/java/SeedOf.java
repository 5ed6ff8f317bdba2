import java.math.BigInteger;

/** Works seeds back from what the seeding is to come to: an ordinary seed almost never gives a word that is 0. */
final class SeedOf {
    static final long MODULUS = 2147483563L;

    private static final BigInteger BIG_MODULUS = BigInteger.valueOf(MODULUS);
    private static final BigInteger FACTOR = BigInteger.valueOf(40014);

    private SeedOf() {
    }

    /** The seed below the modulus after which e is the given value, 1 to 2147483562, when word k is set. */
    static int valueAtWord(int k, long e) {
        BigInteger multiplied = FACTOR.modPow(BigInteger.valueOf(k + 1), BIG_MODULUS);
        return BigInteger.valueOf(e).multiply(multiplied.modInverse(BIG_MODULUS)).mod(BIG_MODULUS).intValueExact();
    }

    /** The seed with the same starting value that as unsigned is the modulus or more; there is one for each seed. */
    static int aboveTheModulus(int seed) {
        return (int) (seed + MODULUS);
    }
}
