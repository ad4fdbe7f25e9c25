/**
 * Sixteen registers of binary64 numbers, reckoned with in whole numbers alone.
 *
 * A number is held as its RANK: 0 for 0, 1 for the least number above 0, 2 for the next one, and so
 * on; a number below 0 has the rank of its size with the other sign. So order, sign, size and
 * neighbours of numbers are those of their ranks, 0 is one number, and a call makes no object but
 * an exception.
 *
 * A rank of 2^53 and more is (e + 1074) * 2^52 + m, m being 2^52 at least; below that it is m itself,
 * e being -1074. An m that is rounded up to 2^53 thereby gives the rank of the next e by itself.
 */
public final class RealDesk {
    /** What would be too great. */
    public static final int OVER = -1;
    /** Something by 0. */
    public static final int ZERO = -2;
    /** The root of what is below 0. */
    public static final int BELOW = -3;
    /** An error of a product that may be too small to be a number. */
    public static final int SMALL = -4;

    private static final int REGISTERS = 16;

    private static final int SUM = 0;
    private static final int DIFFERENCE = 1;
    private static final int PRODUCT = 2;
    private static final int QUOTIENT = 3;
    private static final int REST = 4;
    private static final int LESSER = 5;
    private static final int GREATER = 6;
    private static final int SUM_ERROR = 7;
    private static final int PRODUCT_ERROR = 8;

    private static final int OTHER_SIGN = 0;
    private static final int SIZE = 1;
    private static final int ROOT = 2;
    private static final int WHOLE_DOWN = 3;
    private static final int WHOLE_UP = 4;
    private static final int WHOLE_INWARD = 5;
    private static final int WHOLE_NEAREST = 6;
    private static final int NEXT_ABOVE = 7;
    private static final int NEXT_BELOW = 8;

    private static final int LAST_KIND = 8;

    private static final int M_PLACES = 53;
    private static final int RANK_PLACES = 52;
    private static final long FULL_M = 1L << 52;
    private static final long PAST_M = 1L << 53;
    private static final int LEAST_E = -1074;
    private static final int GREATEST_E = 971;

    private static final int SET_LEAST_E = -1200;
    private static final int SET_GREATEST_E = 1100;
    private static final int GREATEST_POWER = 1024;
    private static final int SMALL_PRODUCT = -960;

    private static final long RANK_OF_1 = 1023L << 52;
    private static final long RANK_OF_2_TO_63 = 1086L << 52;
    /** The rank that 2^1024 would have: what is OVER is told inside the class by this rank, or its negative. */
    private static final long RANK_BEYOND = 2047L << 52;

    /** An m of 53 places may go up by so many and leaves a long's sign alone. */
    private static final int SPARE_PLACES = 10;
    /** One less for a sum, which may carry. */
    private static final int SUM_PLACES = 9;
    private static final int QUOTIENT_ROUNDS = 6;
    private static final int ROOT_M_PAIRS = 27;
    private static final int ROOT_MORE_PAIRS = 29;
    private static final int HALF_PLACES = 27;
    private static final int PRODUCT_DROPPED = 45;
    /** Below 2^53 in size, an m has nothing left beyond this many places. */
    private static final int ALL_PLACES = 62;

    private final long[] ranks;

    public RealDesk() {
        ranks = new long[REGISTERS];
    }

    public int set(int to, long m, int e) throws IllegalArgumentException {
        requireRegister(to);
        // Not by Math.abs: the least long has no size that is a long.
        if (m > PAST_M || m < -PAST_M) {
            throw new IllegalArgumentException("m is above 2^53 in size");
        }
        if (e < SET_LEAST_E || e > SET_GREATEST_E) {
            throw new IllegalArgumentException("e is not -1200 .. 1100");
        }
        return keep(to, withSignOf(nearest(Math.abs(m), e), m));
    }

    public int combine(int to, int kind, int a, int b) throws IllegalArgumentException {
        requireRegister(to);
        requireRegister(a);
        requireRegister(b);
        requireKind(kind);
        return combineRanks(to, kind, ranks[a], ranks[b]);
    }

    public int change(int to, int kind, int a) throws IllegalArgumentException {
        requireRegister(to);
        requireRegister(a);
        requireKind(kind);
        return changeRank(to, kind, ranks[a]);
    }

    public int power(int to, int a, int n) throws IllegalArgumentException {
        requireRegister(to);
        requireRegister(a);
        if (n < -GREATEST_POWER || n > GREATEST_POWER) {
            throw new IllegalArgumentException("n is not -1024 .. 1024");
        }
        long raised = raise(ranks[a], Math.abs(n));
        if (n >= 0 || isOver(raised)) {
            return keep(to, raised);
        }
        return raised == 0 ? ZERO : keep(to, quotient(RANK_OF_1, raised));
    }

    public int order(int a, int b) throws IllegalArgumentException {
        requireRegister(a);
        requireRegister(b);
        if (ranks[a] == ranks[b]) {
            return 0;
        }
        return ranks[a] < ranks[b] ? -1 : 1;
    }

    public long digits(int r) throws IllegalArgumentException {
        requireRegister(r);
        return withSignOf(mOf(ranks[r]), ranks[r]);
    }

    public int exponent(int r) throws IllegalArgumentException {
        requireRegister(r);
        return eOf(ranks[r]);
    }

    public double value(int r) throws IllegalArgumentException {
        requireRegister(r);
        long m = withSignOf(mOf(ranks[r]), ranks[r]);
        return (double) m * powerOfTwo(eOf(ranks[r]));
    }

    public long whole(int r) throws IllegalArgumentException, IllegalStateException {
        requireRegister(r);
        long rank = ranks[r];
        if (rank >= RANK_OF_2_TO_63 || rank < -RANK_OF_2_TO_63) {
            throw new IllegalStateException("the number is not within -2^63 .. 2^63 - 1");
        }
        long m = mOf(rank);
        int e = eOf(rank);
        if (e >= 0) {
            // -2^63 comes out right too: its size wraps to the least long, which is its own negative.
            return withSignOf(m << e, rank);
        }
        int dropped = Math.min(-e, ALL_PLACES);
        if (lowPlaces(m, dropped) != 0) {
            throw new IllegalStateException("the number is not a whole one");
        }
        return withSignOf(m >>> dropped, rank);
    }

    private static void requireRegister(int r) {
        if (r < 0 || r >= REGISTERS) {
            throw new IllegalArgumentException("there is no such register");
        }
    }

    private static void requireKind(int kind) {
        if (kind < 0 || kind > LAST_KIND) {
            throw new IllegalArgumentException("there is no such kind");
        }
    }

    private int keep(int to, long rank) {
        if (isOver(rank)) {
            return OVER;
        }
        ranks[to] = rank;
        return 0;
    }

    private int combineRanks(int to, int kind, long a, long b) {
        switch (kind) {
            case SUM:
                return keep(to, sum(a, b));
            case DIFFERENCE:
                return keep(to, sum(a, -b));
            case PRODUCT:
                return keep(to, product(a, b));
            case QUOTIENT:
                return b == 0 ? ZERO : keep(to, quotient(a, b));
            case REST:
                return b == 0 ? ZERO : keep(to, rest(a, b));
            case LESSER:
                return keep(to, Math.min(a, b));
            case GREATER:
                return keep(to, Math.max(a, b));
            case SUM_ERROR:
                return keep(to, sumError(a, b));
            case PRODUCT_ERROR:
            default:
                return isSmallProduct(a, b) ? SMALL : keep(to, productError(a, b));
        }
    }

    private int changeRank(int to, int kind, long a) {
        switch (kind) {
            case OTHER_SIGN:
                return keep(to, -a);
            case SIZE:
                return keep(to, Math.abs(a));
            case ROOT:
                return a < 0 ? BELOW : keep(to, root(a));
            case WHOLE_DOWN:
            case WHOLE_UP:
            case WHOLE_INWARD:
            case WHOLE_NEAREST:
                return keep(to, wholeNear(kind, a));
            case NEXT_ABOVE:
                return keep(to, a + 1);
            case NEXT_BELOW:
            default:
                return keep(to, a - 1);
        }
    }

    private static boolean isOver(long rank) {
        return rank >= RANK_BEYOND || rank <= -RANK_BEYOND;
    }

    private static long withSignOf(long size, long signed) {
        return signed < 0 ? -size : size;
    }

    /** The m of the rank's size, as the document tells it: 2^52 at least, or with e -1074. */
    private static long mOf(long rank) {
        long size = Math.abs(rank);
        return size < PAST_M ? size : lowPlaces(size, RANK_PLACES) | FULL_M;
    }

    private static int eOf(long rank) {
        long size = Math.abs(rank);
        return size < PAST_M ? LEAST_E : (int) (size >>> RANK_PLACES) - 1 + LEAST_E;
    }

    /** By how much the m of a rank other than 0 must go up to be 2^52 at least, whatever e becomes. */
    private static int lift(long rank) {
        return Math.max(0, Long.numberOfLeadingZeros(mOf(rank)) - (64 - M_PLACES));
    }

    private static long liftedM(long rank) {
        return mOf(rank) << lift(rank);
    }

    private static int liftedE(long rank) {
        return eOf(rank) - lift(rank);
    }

    /** What the lowest places of x hold; places is 0 .. 63. */
    private static long lowPlaces(long x, int places) {
        return x & ((1L << places) - 1);
    }

    /**
     * m without its lowest places, but with the last place 1 if anything was lost. What is rounded
     * two places or more further up then falls to the right side, and never seems to be a tie.
     */
    private static long lower(long m, int places) {
        if (places >= ALL_PLACES) {
            return m == 0 ? 0 : 1;
        }
        long lost = lowPlaces(m, places) == 0 ? 0 : 1;
        return (m >>> places) | lost;
    }

    /** The whole number nearest to m / 2^places, of two as near the even one; places is 1 .. 63. */
    private static long nearestWhole(long m, int places) {
        long kept = m >>> places;
        long lost = lowPlaces(m, places);
        long half = 1L << (places - 1);
        boolean up = lost > half || (lost == half && (kept & 1) == 1);
        return up ? kept + 1 : kept;
    }

    /** The rank of what is nearest to m * 2^e, m being 0 or above; RANK_BEYOND if that is OVER. */
    private static long nearest(long m, int e) {
        if (m == 0) {
            return 0;
        }
        int places = 64 - Long.numberOfLeadingZeros(m);
        int dropped = Math.max(places - M_PLACES, LEAST_E - e);
        if (dropped > 63) {
            return 0;
        }
        int newE = e + dropped;
        if (newE > GREATEST_E) {
            return RANK_BEYOND;
        }
        long newM = dropped > 0 ? nearestWhole(m, dropped) : m << -dropped;
        return ((long) (newE - LEAST_E) << RANK_PLACES) + newM;
    }

    private static long greatInSize(long a, long b) {
        return Math.abs(a) >= Math.abs(b) ? a : b;
    }

    /** The one of the two that greatInSize does not answer. */
    private static long smallInSize(long a, long b) {
        return Math.abs(a) >= Math.abs(b) ? b : a;
    }

    private static long sum(long a, long b) {
        long great = greatInSize(a, b);
        long small = smallInSize(a, b);
        int apart = eOf(great) - eOf(small);
        int up = Math.min(apart, SUM_PLACES);
        // Where lower loses places, great's m is 2^52 at least and went up by 9: enough places stay.
        long greatM = mOf(great) << up;
        long smallM = lower(mOf(small), apart - up);
        boolean sameSign = (great < 0) == (small < 0);
        long size = sameSign ? greatM + smallM : greatM - smallM;
        return withSignOf(nearest(size, eOf(great) - up), great);
    }

    /**
     * The greater one taken away first from the rounded sum: both differences are numbers (Dekker's
     * proof of the fast two-sum), so that rounding takes nothing more away, and neither can be OVER.
     */
    private static long sumError(long a, long b) {
        long great = greatInSize(a, b);
        long small = smallInSize(a, b);
        long rounded = sum(great, small);
        if (isOver(rounded)) {
            return rounded;
        }
        return sum(small, -sum(rounded, -great));
    }

    private static long product(long a, long b) {
        if (a == 0 || b == 0) {
            return 0;
        }
        int e = liftedE(a) + liftedE(b) + PRODUCT_DROPPED;
        return withSignOf(nearest(topOfProduct(liftedM(a), liftedM(b)), e), a ^ b);
    }

    /** The product of two lifted m's (105 or 106 places), lowered by 45 places. */
    private static long topOfProduct(long x, long y) {
        long xHigh = x >>> HALF_PLACES;
        long xLow = lowPlaces(x, HALF_PLACES);
        long yHigh = y >>> HALF_PLACES;
        long yLow = lowPlaces(y, HALF_PLACES);
        long middle = xHigh * yLow + xLow * yHigh;
        long low = xLow * yLow + (lowPlaces(middle, HALF_PLACES) << HALF_PLACES);
        long high = xHigh * yHigh + (middle >>> HALF_PLACES) + (low >>> (2 * HALF_PLACES));
        long lowRest = lowPlaces(low, 2 * HALF_PLACES);
        return (high << (2 * HALF_PLACES - PRODUCT_DROPPED)) | lower(lowRest, PRODUCT_DROPPED);
    }

    private static boolean isSmallProduct(long a, long b) {
        if (a == 0 || b == 0) {
            return false;
        }
        long top = topOfProduct(liftedM(a), liftedM(b));
        int topPlace = 63 - Long.numberOfLeadingZeros(top);
        return topPlace + PRODUCT_DROPPED + liftedE(a) + liftedE(b) < SMALL_PRODUCT;
    }

    /** For a product that is 0 or not small: then e is above -1074, and the error is a number. */
    private static long productError(long a, long b) {
        long rounded = product(a, b);
        if (rounded == 0 || isOver(rounded)) {
            return rounded;
        }
        int e = liftedE(a) + liftedE(b);
        // Both terms wrap; their difference is 2^53 at most in size, and so comes out exactly.
        long exact = liftedM(a) * liftedM(b);
        long error = exact - (mOf(rounded) << (eOf(rounded) - e));
        return withSignOf(nearest(Math.abs(error), e), error ^ rounded);
    }

    private static long quotient(long a, long b) {
        long by = liftedM(b);
        // The callers have answered ZERO for this; the division must not rest on them.
        if (by == 0) {
            return RANK_BEYOND;
        }
        long result = liftedM(a) / by;
        long left = liftedM(a) % by;
        for (int round = 0; round < QUOTIENT_ROUNDS; round++) {
            left = left << SPARE_PLACES;
            result = (result << SPARE_PLACES) | (left / by);
            left = left % by;
        }
        long marked = left == 0 ? result : result | 1;
        int e = liftedE(a) - liftedE(b) - QUOTIENT_ROUNDS * SPARE_PLACES;
        return withSignOf(nearest(marked, e), a ^ b);
    }

    private static long rest(long a, long b) {
        long by = mOf(b);
        if (by == 0 || Math.abs(a) < Math.abs(b)) {
            return a;
        }
        long left = mOf(a) % by;
        for (int twos = eOf(a) - eOf(b); twos > 0; twos -= SPARE_PLACES) {
            left = (left << Math.min(twos, SPARE_PLACES)) % by;
        }
        return withSignOf(nearest(left, eOf(b)), a);
    }

    /** The root, two places of the m at a time, as it is done by hand. */
    private static long root(long a) {
        if (a == 0) {
            return 0;
        }
        // An even e can be halved; m has 53 or 54 places then, and its first pair is not 0.
        int odd = liftedE(a) & 1;
        long m = liftedM(a) << odd;
        int e = liftedE(a) - odd;
        long result = 0;
        long left = 0;
        for (int pair = 1; pair <= ROOT_M_PAIRS + ROOT_MORE_PAIRS; pair++) {
            long next = pair <= ROOT_M_PAIRS ? lowPlaces(m >>> (2 * (ROOT_M_PAIRS - pair)), 2) : 0;
            left = (left << 2) | next;
            long trial = (result << 2) | 1;
            result = result << 1;
            if (left >= trial) {
                left = left - trial;
                result = result | 1;
            }
        }
        long marked = left == 0 ? result : result | 1;
        return nearest(marked, e / 2 - ROOT_MORE_PAIRS);
    }

    private static long wholeNear(int kind, long a) {
        int e = eOf(a);
        if (e >= 0) {
            return a;
        }
        long m = mOf(a);
        int dropped = Math.min(-e, ALL_PLACES);
        long inward = m >>> dropped;
        long outward = lowPlaces(m, dropped) == 0 ? inward : inward + 1;
        long chosen;
        switch (kind) {
            case WHOLE_DOWN:
                chosen = a < 0 ? outward : inward;
                break;
            case WHOLE_UP:
                chosen = a < 0 ? inward : outward;
                break;
            case WHOLE_INWARD:
                chosen = inward;
                break;
            case WHOLE_NEAREST:
            default:
                chosen = nearestWhole(m, dropped);
                break;
        }
        return withSignOf(nearest(chosen, 0), a);
    }

    /** The power for n 0 .. 1024; RANK_BEYOND, or its negative, as soon as anything is OVER. */
    private static long raise(long base, int n) {
        if (n == 0) {
            return RANK_OF_1;
        }
        long result = base;
        int highest = 31 - Integer.numberOfLeadingZeros(n);
        for (int place = highest - 1; place >= 0 && !isOver(result); place--) {
            result = product(result, result);
            if (((n >>> place) & 1) == 1 && !isOver(result)) {
                result = product(result, base);
            }
        }
        return result;
    }

    /** 2^e, e being -1074 .. 971: each of these is a number, and so is each factor on the way. */
    private static double powerOfTwo(int e) {
        double result = 1.0;
        double factor = e < 0 ? 0.5 : 2.0;
        for (int left = Math.abs(e); left > 0; left = left >>> 1) {
            if ((left & 1) == 1) {
                result = result * factor;
            }
            // Not behind the last place, where the factor could leave the numbers.
            if (left > 1) {
                factor = factor * factor;
            }
        }
        return result;
    }
}
