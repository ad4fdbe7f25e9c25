import java.math.BigDecimal;

/**
 * The desk once more, by Java's own doubles, roots and neighbours: reckoned in another way than the
 * class and than Exact, so that one error of thought can hardly be in all three.
 */
final class Mirror {
    private static final BigDecimal SMALL_PRODUCT = new BigDecimal(0x1p-960);

    private final double[] numbers = new double[16];

    int set(int to, long m, int e) {
        require(isRegister(to) && m >= -(1L << 53) && m <= 1L << 53 && e >= -1200 && e <= 1100);
        return keep(to, Math.scalb((double) m, e));
    }

    int combine(int to, int kind, int a, int b) {
        require(isRegister(to) && isRegister(a) && isRegister(b) && isKind(kind));
        double x = numbers[a];
        double y = numbers[b];
        switch (kind) {
            case 0:
                return keep(to, x + y);
            case 1:
                return keep(to, x - y);
            case 2:
                return keep(to, x * y);
            case 3:
                return y == 0 ? RealDesk.ZERO : keep(to, x / y);
            case 4:
                return y == 0 ? RealDesk.ZERO : keep(to, x % y);
            case 5:
                return keep(to, Math.min(x, y));
            case 6:
                return keep(to, Math.max(x, y));
            case 7:
                return keepError(to, new BigDecimal(x).add(new BigDecimal(y)), x + y);
            default:
                BigDecimal product = new BigDecimal(x).multiply(new BigDecimal(y));
                boolean small = product.signum() != 0 && product.abs().compareTo(SMALL_PRODUCT) < 0;
                return small ? RealDesk.SMALL : keepError(to, product, x * y);
        }
    }

    int change(int to, int kind, int a) {
        require(isRegister(to) && isRegister(a) && isKind(kind));
        double x = numbers[a];
        switch (kind) {
            case 0:
                return keep(to, -x);
            case 1:
                return keep(to, Math.abs(x));
            case 2:
                return x < 0 ? RealDesk.BELOW : keep(to, Math.sqrt(x));
            case 3:
                return keep(to, Math.floor(x));
            case 4:
                return keep(to, Math.ceil(x));
            case 5:
                return keep(to, x < 0 ? Math.ceil(x) : Math.floor(x));
            case 6:
                return keep(to, Math.rint(x));
            case 7:
                return keep(to, Math.nextUp(x));
            default:
                return keep(to, Math.nextDown(x));
        }
    }

    int power(int to, int a, int n) {
        require(isRegister(to) && isRegister(a) && n >= -1024 && n <= 1024);
        double result = n == 0 ? 1.0 : numbers[a];
        int size = Math.abs(n);
        // What is infinite stays so: its base is above 1 in size, and so nothing is multiplied by 0.
        for (int place = Integer.highestOneBit(size) >> 1; place > 0; place >>= 1) {
            result *= result;
            result *= (size & place) == 0 ? 1.0 : numbers[a];
        }
        if (n >= 0 || Double.isInfinite(result)) {
            return keep(to, result);
        }
        return result == 0 ? RealDesk.ZERO : keep(to, 1.0 / result);
    }

    int order(int a, int b) {
        require(isRegister(a) && isRegister(b));
        return Double.compare(numbers[a], numbers[b]);
    }

    long digits(int r) {
        return (long) Math.scalb(number(r), -exponent(r));
    }

    int exponent(int r) {
        return Math.max(Math.getExponent(number(r)), -1022) - 52;
    }

    double value(int r) {
        return number(r);
    }

    long whole(int r) {
        double x = number(r);
        if (x != Math.rint(x) || x < -0x1p63 || x >= 0x1p63) {
            throw new IllegalStateException();
        }
        return (long) x;
    }

    private double number(int r) {
        require(isRegister(r));
        return numbers[r];
    }

    private int keep(int to, double x) {
        if (Double.isInfinite(x)) {
            return RealDesk.OVER;
        }
        // Makes a 0 with a sign the one 0 that there is.
        numbers[to] = x + 0.0;
        return 0;
    }

    private int keepError(int to, BigDecimal exact, double rounded) {
        if (Double.isInfinite(rounded)) {
            return RealDesk.OVER;
        }
        return keep(to, exact.subtract(new BigDecimal(rounded)).doubleValue());
    }

    private static void require(boolean holds) {
        if (!holds) {
            throw new IllegalArgumentException();
        }
    }

    private static boolean isRegister(int r) {
        return r >= 0 && r < 16;
    }

    private static boolean isKind(int kind) {
        return kind >= 0 && kind <= 8;
    }
}
