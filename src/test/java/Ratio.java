import java.math.BigInteger;

/** A fraction in lowest terms, for what the tests work out by themselves. */
final class Ratio {
    final BigInteger upper;
    final BigInteger lower;

    Ratio(long upper, long lower) {
        this(BigInteger.valueOf(upper), BigInteger.valueOf(lower));
    }

    Ratio(BigInteger upper, BigInteger lower) {
        BigInteger common = upper.gcd(lower);
        this.upper = upper.divide(common);
        this.lower = lower.divide(common);
    }

    Ratio plus(Ratio other) {
        return new Ratio(upper.multiply(other.lower).add(other.upper.multiply(lower)), lower.multiply(other.lower));
    }

    Ratio less(Ratio other) {
        return plus(new Ratio(other.upper.negate(), other.lower));
    }
}
