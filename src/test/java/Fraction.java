import java.math.BigInteger;

/** A reduced fraction of any size, its denominator above 0. */
record Fraction(BigInteger over, BigInteger under) implements Comparable<Fraction> {
    static final Fraction ZERO = of(0);
    static final Fraction ONE = of(1);

    static Fraction of(long whole) {
        return new Fraction(BigInteger.valueOf(whole), BigInteger.ONE);
    }

    private static Fraction reduced(BigInteger over, BigInteger under) {
        BigInteger divisor = over.gcd(under).multiply(BigInteger.valueOf(under.signum()));
        return new Fraction(over.divide(divisor), under.divide(divisor));
    }

    Fraction plus(Fraction other) {
        return reduced(over.multiply(other.under).add(other.over.multiply(under)), under.multiply(other.under));
    }

    Fraction minus(Fraction other) {
        return plus(other.times(of(-1)));
    }

    Fraction times(Fraction other) {
        return reduced(over.multiply(other.over), under.multiply(other.under));
    }

    Fraction by(Fraction other) {
        return reduced(over.multiply(other.under), under.multiply(other.over));
    }

    int sign() {
        return over.signum();
    }

    @Override
    public int compareTo(Fraction other) {
        return minus(other).sign();
    }
}
