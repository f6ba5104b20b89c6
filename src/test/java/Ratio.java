import java.math.BigInteger;

/** An exact fraction of any size, for the oracle. */
final class Ratio implements Comparable<Ratio> {
    static final Ratio ZERO = of(0);
    static final Ratio ONE = of(1);

    final BigInteger top;
    final BigInteger bottom;

    Ratio(BigInteger numerator, BigInteger denominator) {
        BigInteger common = numerator.gcd(denominator);
        if (denominator.signum() < 0) {
            common = common.negate();
        }
        top = numerator.divide(common);
        bottom = denominator.divide(common);
    }

    static Ratio of(long value) {
        return new Ratio(BigInteger.valueOf(value), BigInteger.ONE);
    }

    static Ratio of(long numerator, long denominator) {
        return new Ratio(BigInteger.valueOf(numerator), BigInteger.valueOf(denominator));
    }

    Ratio plus(Ratio other) {
        return new Ratio(top.multiply(other.bottom).add(other.top.multiply(bottom)), bottom.multiply(other.bottom));
    }

    Ratio minus(Ratio other) {
        return plus(other.negated());
    }

    Ratio times(Ratio other) {
        return new Ratio(top.multiply(other.top), bottom.multiply(other.bottom));
    }

    Ratio over(Ratio other) {
        return new Ratio(top.multiply(other.bottom), bottom.multiply(other.top));
    }

    Ratio negated() {
        return new Ratio(top.negate(), bottom);
    }

    Ratio size() {
        return new Ratio(top.abs(), bottom);
    }

    boolean isZero() {
        return top.signum() == 0;
    }

    int sign() {
        return top.signum();
    }

    public int compareTo(Ratio other) {
        return top.multiply(other.bottom).compareTo(other.top.multiply(bottom));
    }

    public String toString() {
        return top + "/" + bottom;
    }
}
