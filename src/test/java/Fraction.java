import java.math.BigInteger;

/** An exact fraction, for the model only: the program itself has none of this. */
final class Fraction implements Comparable<Fraction> {
    static final Fraction ZERO = of(0), ONE = of(1);

    final BigInteger above;
    final BigInteger below;

    Fraction(BigInteger above, BigInteger below) {
        BigInteger shared = above.gcd(below);
        BigInteger sign = below.signum() < 0 ? BigInteger.ONE.negate() : BigInteger.ONE;
        this.above = above.multiply(sign).divide(shared);
        this.below = below.multiply(sign).divide(shared);
    }

    static Fraction of(long n) {
        return new Fraction(BigInteger.valueOf(n), BigInteger.ONE);
    }

    static Fraction of(long n, long d) {
        return new Fraction(BigInteger.valueOf(n), BigInteger.valueOf(d));
    }

    Fraction plus(Fraction o) {
        return new Fraction(above.multiply(o.below).add(o.above.multiply(below)), below.multiply(o.below));
    }

    Fraction minus(Fraction o) {
        return plus(o.times(of(-1)));
    }

    Fraction times(Fraction o) {
        return new Fraction(above.multiply(o.above), below.multiply(o.below));
    }

    Fraction by(Fraction o) {
        return new Fraction(above.multiply(o.below), below.multiply(o.above));
    }

    boolean isWithin(long least, long most) {
        return compareTo(of(least)) >= 0 && compareTo(of(most)) <= 0;
    }

    int down() {
        BigInteger[] parts = above.divideAndRemainder(below);
        return (parts[1].signum() < 0 ? parts[0].subtract(BigInteger.ONE) : parts[0]).intValueExact();
    }

    /** The nearest whole number, a half up. */
    int rounded() {
        return plus(of(1, 2)).down();
    }

    @Override
    public int compareTo(Fraction o) {
        return above.multiply(o.below).compareTo(o.above.multiply(below));
    }
}
