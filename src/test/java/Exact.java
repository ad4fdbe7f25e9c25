import java.math.BigInteger;

/** What the document asks, reckoned anew with whole numbers of any length. */
final class Exact {
    static final int UNIT_E = -1074;

    private Exact() {
    }

    /** The m of a number, with its sign. */
    static long m(double x) {
        long bits = Double.doubleToRawLongBits(x);
        long low = bits & ((1L << 52) - 1);
        long size = (bits >>> 52 & 2047) == 0 ? low : low | 1L << 52;
        return bits < 0 ? -size : size;
    }

    static int e(double x) {
        int biased = (int) (Double.doubleToRawLongBits(x) >>> 52 & 2047);
        return Math.max(biased, 1) - 1075;
    }

    /** The number, counted in units of 2^-1074. */
    static BigInteger units(double x) {
        return BigInteger.valueOf(m(x)).shiftLeft(e(x) - UNIT_E);
    }

    static double nearest(BigInteger number, int e) {
        return nearest(number, BigInteger.ONE, e);
    }

    /** What is nearest to p / q * 2^e; infinite, if that is OVER. */
    static double nearest(BigInteger p, BigInteger q, int e) {
        if (p.signum() == 0) {
            return 0.0;
        }
        BigInteger top = p.abs();
        BigInteger under = q.abs();
        int highest = top.bitLength() - under.bitLength();
        if (shifted(top, -highest).compareTo(shifted(under, highest)) < 0) {
            highest--;
        }
        int newE = Math.max(highest + e - 52, UNIT_E);
        BigInteger[] parts = shifted(top, e - newE).divideAndRemainder(shifted(under, newE - e));
        BigInteger m = parts[0];
        int half = parts[1].shiftLeft(1).compareTo(shifted(under, newE - e));
        if (half > 0 || half == 0 && m.testBit(0)) {
            m = m.add(BigInteger.ONE);
        }
        double size = made(m, newE);
        return p.signum() * q.signum() < 0 && size != 0 ? -size : size;
    }

    static double sum(double a, double b) {
        return nearest(units(a).add(units(b)), UNIT_E);
    }

    static double product(double a, double b) {
        return nearest(units(a).multiply(units(b)), 2 * UNIT_E);
    }

    static double quotient(double a, double b) {
        return nearest(units(a), units(b), 0);
    }

    static double rest(double a, double b) {
        return exactly(units(a).remainder(units(b)), UNIT_E);
    }

    static double sumError(double a, double b) {
        return exactly(units(a).add(units(b)).subtract(units(sum(a, b))), UNIT_E);
    }

    static double productError(double a, double b) {
        BigInteger rounded = units(product(a, b)).shiftLeft(-UNIT_E);
        return exactly(units(a).multiply(units(b)).subtract(rounded), 2 * UNIT_E);
    }

    static boolean isSmallProduct(double a, double b) {
        BigInteger size = units(a).multiply(units(b)).abs();
        return size.signum() != 0 && size.compareTo(BigInteger.ONE.shiftLeft(-960 - 2 * UNIT_E)) < 0;
    }

    static double root(double a) {
        BigInteger[] parts = units(a).shiftLeft(400).sqrtAndRemainder();
        BigInteger marked = parts[0].shiftLeft(1);
        if (parts[1].signum() != 0) {
            marked = marked.add(BigInteger.ONE);
        }
        return nearest(marked, UNIT_E / 2 - 201);
    }

    /** The greatest whole number that is not above the number. */
    static double floor(double a) {
        return exactly(units(a).shiftRight(-UNIT_E), 0);
    }

    static double ceiling(double a) {
        return exactly(units(a).negate().shiftRight(-UNIT_E).negate(), 0);
    }

    static double nearestWhole(double a) {
        BigInteger down = units(a).shiftRight(-UNIT_E);
        BigInteger up = units(a).negate().shiftRight(-UNIT_E).negate();
        BigInteger fromDown = units(a).subtract(down.shiftLeft(-UNIT_E));
        BigInteger toUp = up.shiftLeft(-UNIT_E).subtract(units(a));
        int nearer = fromDown.compareTo(toUp);
        boolean isDown = nearer < 0 || nearer == 0 && !down.testBit(0);
        return exactly(isDown ? down : up, 0);
    }

    /** The number that number * 2^e is; it must be one. */
    private static double exactly(BigInteger number, int e) {
        double result = nearest(number, e);
        if (!units(result).shiftLeft(1074).equals(number.shiftLeft(e + 2148))) {
            throw new AssertionError("the oracle was asked for what is no number");
        }
        return result;
    }

    private static BigInteger shifted(BigInteger x, int up) {
        return up > 0 ? x.shiftLeft(up) : x;
    }

    private static double made(BigInteger m, int e) {
        boolean carried = m.bitLength() > 53;
        long size = carried ? 1L << 52 : m.longValueExact();
        int newE = carried ? e + 1 : e;
        if (newE > 971) {
            return Double.POSITIVE_INFINITY;
        }
        long biased = size < 1L << 52 ? 0 : newE + 1075;
        return Double.longBitsToDouble(biased << 52 | size & (1L << 52) - 1);
    }
}
