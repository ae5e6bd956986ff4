import java.math.BigInteger;

/** A fraction in least terms, of any size. */
record Fraction(BigInteger upper, BigInteger lower) {
    static final Fraction ZERO = of(0, 1);
    static final Fraction ONE = of(1, 1);

    Fraction {
        BigInteger divisor = upper.gcd(lower);
        if (lower.signum() < 0) {
            divisor = divisor.negate();
        }
        upper = upper.divide(divisor);
        lower = lower.divide(divisor);
    }

    static Fraction of(long upper, long lower) {
        return new Fraction(BigInteger.valueOf(upper), BigInteger.valueOf(lower));
    }

    Fraction plus(Fraction o) {
        return new Fraction(upper.multiply(o.lower).add(o.upper.multiply(lower)), lower.multiply(o.lower));
    }

    Fraction minus(Fraction o) {
        return plus(new Fraction(o.upper.negate(), o.lower));
    }

    Fraction times(Fraction o) {
        return new Fraction(upper.multiply(o.upper), lower.multiply(o.lower));
    }

    Fraction by(Fraction o) {
        return new Fraction(upper.multiply(o.lower), lower.multiply(o.upper));
    }

    boolean isMoreThan(Fraction o) {
        return minus(o).upper.signum() > 0;
    }

    long part(int what) {
        return (what == 0 ? upper : lower).longValueExact();
    }
}
