import java.math.BigInteger;

/** The document's MIX on whole numbers, and the way back from a MIX to its KEY. */
final class Mix {
    static final BigInteger ROUND = BigInteger.ONE.shiftLeft(64);
    private static final BigInteger STEP = hex("9E3779B97F4A7C15");
    private static final BigInteger FIRST = hex("BF58476D1CE4E5B9");
    private static final BigInteger SECOND = hex("94D049BB133111EB");

    private Mix() {
    }

    static BigInteger of(long key, long seed) {
        BigInteger z = whole(key).xor(turn(seed));
        z = z.xor(z.shiftRight(30)).multiply(FIRST).mod(ROUND);
        z = z.xor(z.shiftRight(27)).multiply(SECOND).mod(ROUND);
        return z.xor(z.shiftRight(31));
    }

    /** The one KEY whose MIX by the seed is this, so that a test can stand at an edge of the MIX. */
    static long keyOf(BigInteger mix, long seed) {
        BigInteger z = unshift(mix, 31).multiply(SECOND.modInverse(ROUND)).mod(ROUND);
        z = unshift(z, 27).multiply(FIRST.modInverse(ROUND)).mod(ROUND);
        return unshift(z, 30).xor(turn(seed)).longValue();
    }

    static BigInteger hex(String x) {
        return new BigInteger(x, 16);
    }

    private static BigInteger whole(long x) {
        return BigInteger.valueOf(x).mod(ROUND);
    }

    private static BigInteger turn(long seed) {
        return whole(seed).multiply(STEP).mod(ROUND);
    }

    private static BigInteger unshift(BigInteger y, int by) {
        BigInteger z = y;
        for (int done = by; done < 64; done += by) {
            z = y.xor(z.shiftRight(by));
        }
        return z;
    }
}
