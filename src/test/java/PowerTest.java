/** Promise 5: power. */
public final class PowerTest {
    private static final double BEFORE = 12.5;

    private PowerTest() {
    }

    public static void main(String[] args) {
        Due due = new Due("PowerTest");
        ordinary(due);
        everyN(due);
        edges(due);
        many(due);
        leavesOthers(due);
        wrong(due);
        due.end();
    }

    private static void ordinary(Due due) {
        given(due, 3.0, 0, 0, 1.0);
        given(due, 3.0, 1, 0, 3.0);
        given(due, 3.0, 5, 0, 243.0);
        given(due, -2.0, 3, 0, -8.0);
        given(due, -2.0, -1, 0, -0.5);
        given(due, 0.0, 0, 0, 1.0);
        given(due, 0.0, 1024, 0, 0.0);
        given(due, 0.0, -1, RealDesk.ZERO, BEFORE);
        given(due, 0.5, 1024, 0, 0x1p-1024);
        given(due, 0.5, -1024, RealDesk.OVER, BEFORE);
        given(due, 0.5, -1023, 0, 0x1p1023);
        given(due, 2.0, 1023, 0, 0x1p1023);
        given(due, 2.0, 1024, RealDesk.OVER, BEFORE);
        // 2^1024 is OVER although 1 divided by it would be a number.
        given(due, 2.0, -1024, RealDesk.OVER, BEFORE);
        given(due, 0x1p-600, 2, 0, 0.0);
        given(due, 0x1p-600, -2, RealDesk.ZERO, BEFORE);
        given(due, -0x1p600, 3, RealDesk.OVER, BEFORE);
        given(due, 0x1p-1074, 1, 0, 0x1p-1074);
        given(due, 0x1p-1074, -1, RealDesk.OVER, BEFORE);
        given(due, -1.0, 1024, 0, 1.0);
        given(due, -1.0, -1023, 0, -1.0);
    }

    private static void everyN(Due due) {
        double[] bases = {1.1, -1.1, 0.9, 1.0000001, 3.0, 1.0 / 3.0, -0.5, 0x1.fffffffffffffp-1, 1.9, 2.1};
        for (double base : bases) {
            for (int n = -1024; n <= 1024; n++) {
                byDocument(due, base, n);
            }
        }
    }

    private static void edges(Due due) {
        int[] ns = {-1024, -1023, -513, -512, -7, -3, -2, -1, 0, 1, 2, 3, 4, 5, 6, 7, 8, 511, 512, 513, 1023, 1024};
        for (double base : Samples.edges()) {
            for (int n : ns) {
                byDocument(due, base, n);
            }
        }
    }

    private static void many(Due due) {
        Samples samples = new Samples(5);
        for (int i = 0; i < 20000; i++) {
            byDocument(due, samples.anyNumber(), samples.below(9) - 4);
            byDocument(due, samples.number(-56, -48), samples.below(129) - 64);
            byDocument(due, 1.0 + samples.number(-62, -54), samples.below(2049) - 1024);
        }
    }

    private static void leavesOthers(Due due) {
        for (int to = 0; to < Desks.REGISTERS; to++) {
            for (int a : new int[] {to, (to + 5) % 16}) {
                RealDesk desk = Desks.filled();
                double[] want = Desks.all(desk);
                want[to] = 1.0 / (want[a] * want[a] * want[a]);
                String call = "power(" + to + ", " + a + ", -3)";
                due.same(call, desk.power(to, a, -3), 0);
                Desks.unchanged(due, call, desk, want);
            }
        }
    }

    private static void wrong(Due due) {
        RealDesk desk = Desks.filled();
        Desks.put(desk, 9, 0.0);
        double[] before = Desks.all(desk);
        for (int r : Desks.NO_REGISTERS) {
            due.refused("power(" + r + ", 9, -1)", () -> desk.power(r, 9, -1));
            due.refused("power(0, " + r + ", 0)", () -> desk.power(0, r, 0));
        }
        for (int n : new int[] {-1025, 1025, Integer.MIN_VALUE, Integer.MAX_VALUE}) {
            due.refused("power(0, 9, " + n + ")", () -> desk.power(0, 9, n));
        }
        Desks.unchanged(due, "refused calls of power", desk, before);
    }

    private static void given(Due due, double base, int n, int answer, double number) {
        RealDesk desk = new RealDesk();
        Desks.put(desk, 0, base);
        Desks.put(desk, 1, BEFORE);
        String call = "power(1, " + Desks.told(base) + ", " + n + ")";
        due.same(call, desk.power(1, 0, n), answer);
        Desks.holds(due, call, desk, 1, number);
    }

    private static void byDocument(Due due, double base, int n) {
        double raised = raised(base, Math.abs(n));
        boolean over = Double.isInfinite(raised);
        if (n >= 0 || over) {
            given(due, base, n, over ? RealDesk.OVER : 0, over ? BEFORE : raised);
        } else if (raised == 0) {
            given(due, base, n, RealDesk.ZERO, BEFORE);
        } else {
            double inverse = 1.0 / raised;
            boolean inverseOver = Double.isInfinite(inverse);
            given(due, base, n, inverseOver ? RealDesk.OVER : 0, inverseOver ? BEFORE : inverse);
        }
    }

    /** Java's own product is what is nearest; what was infinite once stays so. */
    private static double raised(double base, int n) {
        if (n == 0) {
            return 1.0;
        }
        double result = base;
        for (char place : Integer.toBinaryString(n).substring(1).toCharArray()) {
            result = result * result;
            if (Double.isInfinite(result)) {
                return result;
            }
            if (place == '1') {
                result = result * base;
            }
        }
        return result + 0.0;
    }
}
