import java.math.BigInteger;

/** An exact fraction in lowest terms. */
final class Ratio implements Comparable<Ratio> {
    static final Ratio ZERO = of(0, 1);
    final BigInteger above;
    final BigInteger below;

    private Ratio(BigInteger above, BigInteger below) {
        BigInteger divisor = above.gcd(below);
        BigInteger sign = BigInteger.valueOf(below.signum());
        this.above = above.divide(divisor).multiply(sign);
        this.below = below.divide(divisor).multiply(sign);
    }

    static Ratio of(long above, long below) {
        return new Ratio(BigInteger.valueOf(above), BigInteger.valueOf(below));
    }

    Ratio plus(Ratio other) {
        return new Ratio(above.multiply(other.below).add(other.above.multiply(below)), below.multiply(other.below));
    }

    Ratio minus(Ratio other) {
        return plus(new Ratio(other.above.negate(), other.below));
    }

    Ratio times(Ratio other) {
        return new Ratio(above.multiply(other.above), below.multiply(other.below));
    }

    Ratio by(Ratio other) {
        return new Ratio(above.multiply(other.below), below.multiply(other.above));
    }

    Ratio least(Ratio other) {
        return compareTo(other) <= 0 ? this : other;
    }

    boolean isPositive() {
        return above.signum() > 0;
    }

    @Override
    public int compareTo(Ratio other) {
        return above.multiply(other.below).compareTo(other.above.multiply(below));
    }

    long part(boolean wantsBelow) {
        return (wantsBelow ? below : above).longValueExact();
    }
}
