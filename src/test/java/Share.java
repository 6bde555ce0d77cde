import java.math.BigInteger;

/** An exact share, for the model alone. */
final class Share implements Comparable<Share> {
    static final Share ZERO = of(0), ONE = of(1);

    final BigInteger upper;
    final BigInteger lower;

    private Share(BigInteger upper, BigInteger lower) {
        BigInteger divisor = upper.gcd(lower);
        if (lower.signum() < 0) {
            divisor = divisor.negate();
        }
        this.upper = upper.divide(divisor);
        this.lower = lower.divide(divisor);
    }

    static Share of(long whole) {
        return new Share(BigInteger.valueOf(whole), BigInteger.ONE);
    }

    static Share of(long upper, long lower) {
        return new Share(BigInteger.valueOf(upper), BigInteger.valueOf(lower));
    }

    Share plus(Share o) {
        return new Share(upper.multiply(o.lower).add(o.upper.multiply(lower)), lower.multiply(o.lower));
    }

    Share minus(Share o) {
        return plus(o.times(of(-1)));
    }

    Share times(Share o) {
        return new Share(upper.multiply(o.upper), lower.multiply(o.lower));
    }

    Share by(Share o) {
        return new Share(upper.multiply(o.lower), lower.multiply(o.upper));
    }

    Share size() {
        return new Share(upper.abs(), lower);
    }

    boolean isZero() {
        return upper.signum() == 0;
    }

    int sign() {
        return upper.signum();
    }

    long half(int which) {
        return which == 0 ? upper.longValueExact() : lower.longValueExact();
    }

    @Override
    public int compareTo(Share o) {
        return minus(o).sign();
    }
}
