import java.math.BigInteger;

/** A number told exactly, however great. */
final class Frac implements Comparable<Frac> {
    final BigInteger upper;
    final BigInteger lower;

    private Frac(BigInteger whole) {
        upper = whole;
        lower = BigInteger.ONE;
    }

    private Frac(BigInteger upper, BigInteger lower) {
        BigInteger shared = upper.gcd(lower);
        BigInteger sign = BigInteger.valueOf(lower.signum());
        this.upper = upper.divide(shared).multiply(sign);
        this.lower = lower.divide(shared).multiply(sign);
    }

    static Frac of(long whole) {
        return new Frac(BigInteger.valueOf(whole));
    }

    Frac plus(Frac other) {
        return new Frac(upper.multiply(other.lower).add(other.upper.multiply(lower)), lower.multiply(other.lower));
    }

    Frac minus(Frac other) {
        return plus(new Frac(other.upper.negate(), other.lower));
    }

    Frac times(Frac other) {
        return new Frac(upper.multiply(other.upper), lower.multiply(other.lower));
    }

    Frac over(Frac other) {
        return new Frac(upper.multiply(other.lower), lower.multiply(other.upper));
    }

    int sign() {
        return upper.signum();
    }

    boolean isZero() {
        return sign() == 0;
    }

    @Override
    public int compareTo(Frac other) {
        return upper.multiply(other.lower).compareTo(other.upper.multiply(lower));
    }

    @Override
    public boolean equals(Object other) {
        return other instanceof Frac f && compareTo(f) == 0;
    }

    @Override
    public int hashCode() {
        return upper.hashCode() * 31 + lower.hashCode();
    }
}
