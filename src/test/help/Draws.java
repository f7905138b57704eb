import java.math.BigInteger;

/** Draws as the document tells them, reckoned in numbers without an end. */
final class Draws {
    private static final BigInteger ALL = BigInteger.ONE.shiftLeft(64);
    private static final BigInteger FACTOR = new BigInteger("6364136223846793005");
    private static final BigInteger STEP = new BigInteger("1442695040888963407");

    private BigInteger x;

    Draws(long seed) {
        x = BigInteger.valueOf(seed).mod(ALL);
    }

    int draw(int k) {
        x = x.multiply(FACTOR).add(STEP).mod(ALL);
        return x.shiftRight(33).mod(BigInteger.valueOf(k)).intValue();
    }

    /** The n-th draw of k from here. */
    int next(int k, int n) {
        int drawn = draw(k);
        for (int i = 1; i < n; i++) {
            drawn = draw(k);
        }
        return drawn;
    }
}
