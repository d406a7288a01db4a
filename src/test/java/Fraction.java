import java.math.BigInteger;

/** An exact fraction in lowest terms, its denominator above 0. */
record Fraction(BigInteger top, BigInteger bottom) implements Comparable<Fraction> {
    static final Fraction ZERO = of(0, 1);

    Fraction {
        if (bottom.signum() == 0) {
            throw new ArithmeticException("a denominator of 0");
        }
        BigInteger common = top.gcd(bottom).multiply(BigInteger.valueOf(bottom.signum()));
        top = top.divide(common);
        bottom = bottom.divide(common);
    }

    static Fraction of(long top, long bottom) {
        return new Fraction(BigInteger.valueOf(top), BigInteger.valueOf(bottom));
    }

    Fraction plus(Fraction o) {
        return new Fraction(top.multiply(o.bottom).add(o.top.multiply(bottom)), bottom.multiply(o.bottom));
    }

    Fraction minus(Fraction o) {
        return plus(o.times(of(-1, 1)));
    }

    Fraction times(Fraction o) {
        return new Fraction(top.multiply(o.top), bottom.multiply(o.bottom));
    }

    Fraction by(Fraction o) {
        return new Fraction(top.multiply(o.bottom), bottom.multiply(o.top));
    }

    long tell(boolean numerator) {
        return (numerator ? top : bottom).longValueExact();
    }

    @Override
    public int compareTo(Fraction o) {
        return top.multiply(o.bottom).compareTo(o.top.multiply(bottom));
    }
}
