/** Numbers to try: the edges, and a fixed sequence of others that is the same in every run. */
final class Samples {
    /** The least number above 0, and the greatest of all. */
    static final double LEAST = 0x1p-1074;
    static final double GREATEST = 0x1.fffffffffffffp1023;

    private static final double[] SIZES = {
        0.0, 0x1p-1074, 0x1p-1073, 0x1.8p-1073, 0x1.cp-1072,
        0x0.fffffffffffffp-1022, 0x1p-1022, 0x1.0000000000001p-1022, 0x1.fffffffffffffp-1022, 0x1p-1021,
        0x1p-600, 0x1p-538, 0x1p-537, 0x1p-481, 0x1p-480, 0x1.fffffffffffffp-481, 0x1.0000000000001p-480,
        0x1p-479, 0x1.fffffffffffffp-482, 0x1p-54, 0x1p-53, 0x1.0000000000001p-53, 0x1p-52,
        0x1.fffffffffffffp-2, 0.5, 0x1.0000000000001p-1, 0.75, 0x1.fffffffffffffp-1, 1.0, 0x1.0000000000001p0,
        1.5, 0x1.fffffffffffffp0, 2.0, 2.5, 3.0, 3.5, 7.0, 10.0, 0.1, 1.0 / 3.0,
        0x1p51, 0x1.fffffffffffffp50, 0x1.0000000000001p51, 0x1.fffffffffffffp51, 0x1p52, 0x1.0000000000001p52,
        0x1p53, 0x1.fffffffffffffp52, 0x1.0000000000001p53, 0x1p54, 0x1.fffffffffffffp62, 0x1p63,
        0x1.0000000000001p63, 0x1p64, 0x1p511, 0x1p512, 0x1.fffffffffffffp511, 0x1p600, 0x1p970,
        0x1.fffffffffffffp969, 0x1p1022, 0x1p1023, 0x1.fffffffffffffp1022, 0x1.ffffffffffffep1023,
        0x1.fffffffffffffp1023
    };

    private long state;

    Samples(long start) {
        state = start;
    }

    static double[] edges() {
        double[] all = new double[2 * SIZES.length - 1];
        for (int i = 0; i < SIZES.length; i++) {
            all[i] = SIZES[i];
            if (i > 0) {
                all[SIZES.length + i - 1] = -SIZES[i];
            }
        }
        return all;
    }

    long next() {
        state += 0x9E3779B97F4A7C15L;
        long mixed = (state ^ state >>> 30) * 0xBF58476D1CE4E5B9L;
        mixed = (mixed ^ mixed >>> 27) * 0x94D049BB133111EBL;
        return mixed ^ mixed >>> 31;
    }

    int below(int bound) {
        return (int) Long.remainderUnsigned(next(), bound);
    }

    /** An m of any length up to 53 places, often with few ones or few noughts, where ties lie. */
    long m() {
        int places = 1 + below(53);
        long size = next() >>> 64 - places;
        switch (below(4)) {
            case 0:
                size = 1L << places - 1 | 1L << below(places) | below(2);
                break;
            case 1:
                size = (1L << places) - 1 - (1L << below(places));
                break;
            default:
                break;
        }
        return below(2) == 0 ? size : -size;
    }

    /** A number whose e is in a range, but not below -1074 or above what leaves it a number. */
    double number(int leastE, int greatestE) {
        int e = leastE + below(greatestE - leastE + 1);
        double made = (double) m() * Math.scalb(1.0, Math.max(-1074, Math.min(971, e)));
        return made == 0 ? 0.0 : made;
    }

    double anyNumber() {
        return number(-1074, 971);
    }
}
