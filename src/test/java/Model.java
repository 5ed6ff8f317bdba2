import java.math.BigInteger;
import java.util.ArrayList;
import java.util.List;

/**
 * The document told another way, to compare with: the whole sequence is kept, x(n) = x(n - 10) - x(n - 24) - borrow,
 * and there is no cursor but the count of draws.
 */
final class Model {
    private static final BigInteger MODULUS = BigInteger.valueOf(2147483563L);
    private static final BigInteger FACTOR = BigInteger.valueOf(40014L);
    private static final BigInteger RANGE = BigInteger.ONE.shiftLeft(24);

    private final List<Long> sequence = new ArrayList<>();
    private long borrow;

    Model() {
        seed(0);
    }

    int seed(int s) {
        BigInteger start = new BigInteger(Integer.toUnsignedString(s == 0 ? 19780503 : s)).mod(MODULUS);
        if (start.signum() == 0) {
            start = BigInteger.ONE;
        }
        sequence.clear();
        for (int k = 0; k < 24; k++) {
            BigInteger e = start.multiply(FACTOR.modPow(BigInteger.valueOf(k + 1), MODULUS)).mod(MODULUS);
            sequence.add(e.mod(RANGE).longValueExact());
        }
        borrow = sequence.get(23) == 0L ? 1 : 0;
        return s == 0 ? 1 : 0;
    }

    int next() {
        int n = sequence.size();
        long d = sequence.get(n - 10) - sequence.get(n - 24) - borrow;
        borrow = d < 0 ? 1 : 0;
        long word = Math.floorMod(d, 1L << 24);
        sequence.add(word);
        return (int) word;
    }

    int skip(int n) {
        if (n < 0) {
            return -1;
        }
        if (n > 200) {
            return -2;
        }
        for (int i = 0; i < n; i++) {
            next();
        }
        return n;
    }

    int status() {
        return (sequence.size() - 24) % 24 * 2 + (int) borrow;
    }
}
