import java.math.BigInteger;

/** A fraction in lowest terms, of any size. */
record Fraction(BigInteger above, BigInteger below) {
    static final Fraction ZERO = of(0, 1);

    static Fraction of(long above, long below) {
        return lowest(BigInteger.valueOf(above), BigInteger.valueOf(below));
    }

    private static Fraction lowest(BigInteger above, BigInteger below) {
        BigInteger divisor = above.gcd(below);
        return new Fraction(above.divide(divisor), below.divide(divisor));
    }

    Fraction plus(Fraction other) {
        return lowest(above.multiply(other.below).add(other.above.multiply(below)),
            below.multiply(other.below));
    }

    Fraction times(Fraction other) {
        return lowest(above.multiply(other.above), below.multiply(other.below));
    }

    Fraction times(long n) {
        return times(of(n, 1));
    }

    Fraction minus(Fraction other) {
        return plus(other.times(-1));
    }

    long part(int part) {
        return (part == 0 ? above : below).longValueExact();
    }
}
