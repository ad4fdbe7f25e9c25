/** Promise 3: combine. */
public final class CombineTest {
    private static final double BEFORE = 12.5;

    private CombineTest() {
    }

    public static void main(String[] args) {
        Due due = new Due("CombineTest");
        ordinary(due);
        edges(due);
        many(due);
        sameRegisters(due);
        leavesOthers(due);
        wrong(due);
        due.end();
    }

    private static void ordinary(Due due) {
        double[] want = {5.5, 9.5, -15.0, -3.75, 1.5, -2.0, 7.5, 0.0, 0.0};
        for (int kind = 0; kind <= 8; kind++) {
            RealDesk desk = new RealDesk();
            Desks.put(desk, 0, 7.5);
            Desks.put(desk, 1, -2.0);
            due.same("7.5 and -2, kind " + kind, desk.combine(2, kind, 0, 1), 0);
            due.same("7.5 and -2, kind " + kind, desk.value(2), want[kind]);
        }
    }

    private static void edges(Due due) {
        double[] edges = Samples.edges();
        for (double a : edges) {
            for (double b : edges) {
                allKinds(due, a, b);
            }
        }
    }

    private static void many(Due due) {
        Samples samples = new Samples(3);
        for (int i = 0; i < 6000; i++) {
            double a = samples.anyNumber();
            allKinds(due, a, samples.anyNumber());
            int near = Math.max(-1074, Math.min(971, Exact.e(a)));
            double b = samples.number(near - 60, near + 5);
            allKinds(due, a, b);
            allKinds(due, b, a);
            double c = samples.number(-60, 8);
            allKinds(due, c, samples.number(-60, 8));
            // Products about 2^-960, about the least numbers, and about the greatest.
            allKinds(due, samples.number(-520, -480), samples.number(-560, -470));
            allKinds(due, samples.number(-560, -520), samples.number(-560, -530));
            allKinds(due, samples.number(440, 490), samples.number(440, 490));
            allKinds(due, samples.number(-1074, -1020), samples.number(-1074, -1020));
            allKinds(due, samples.number(900, 971), samples.number(900, 971));
        }
    }

    private static void sameRegisters(Due due) {
        double[] numbers = {3.0, -0.1, 0x1p-1074, 0x1.fffffffffffffp1023, 0x1.fffffffffffffp-480};
        for (double x : numbers) {
            for (int kind = 0; kind <= 8; kind++) {
                RealDesk desk = Desks.filled();
                Desks.put(desk, 5, x);
                due.same("combine(5, " + kind + ", 5, 5) of " + x, desk.combine(5, kind, 5, 5), dueAnswer(kind, x, x));
                due.same("combine(5, " + kind + ", 5, 5) of " + x, desk.value(5),
                    dueAnswer(kind, x, x) == 0 ? dueNumber(kind, x, x) : x);
            }
        }
        RealDesk desk = new RealDesk();
        Desks.put(desk, 0, 7.0);
        Desks.put(desk, 1, 2.0);
        due.same("combine(0, 1, 0, 1)", desk.combine(0, 1, 0, 1), 0);
        due.same("the first's own register", desk.value(0), 5.0);
        due.same("combine(1, 1, 0, 1)", desk.combine(1, 1, 0, 1), 0);
        due.same("the second's own register", desk.value(1), 3.0);
    }

    private static void leavesOthers(Due due) {
        for (int kind = 0; kind <= 8; kind++) {
            for (int to = 0; to < Desks.REGISTERS; to++) {
                RealDesk desk = Desks.filled();
                double[] want = Desks.all(desk);
                int a = (to + 3) % 16;
                int b = (to + 7) % 16;
                want[to] = dueNumber(kind, want[a], want[b]);
                String call = "combine(" + to + ", " + kind + ", " + a + ", " + b + ")";
                due.same(call, desk.combine(to, kind, a, b), 0);
                Desks.unchanged(due, call, desk, want);
            }
        }
    }

    private static void wrong(Due due) {
        RealDesk desk = Desks.filled();
        Desks.put(desk, 9, 0.0);
        double[] before = Desks.all(desk);
        for (int r : Desks.NO_REGISTERS) {
            for (int kind = 0; kind <= 8; kind++) {
                int k = kind;
                due.refused("combine(" + r + ", " + k + ", 0, 9)", () -> desk.combine(r, k, 0, 9));
                due.refused("combine(0, " + k + ", " + r + ", 9)", () -> desk.combine(0, k, r, 9));
                due.refused("combine(0, " + k + ", 0, " + r + ")", () -> desk.combine(0, k, 0, r));
            }
        }
        for (int kind : Desks.NO_KINDS) {
            due.refused("combine(0, " + kind + ", 0, 9)", () -> desk.combine(0, kind, 0, 9));
        }
        Desks.unchanged(due, "refused calls of combine", desk, before);
    }

    private static void allKinds(Due due, double a, double b) {
        RealDesk desk = new RealDesk();
        Desks.put(desk, 0, a);
        Desks.put(desk, 1, b);
        for (int kind = 0; kind <= 8; kind++) {
            Desks.put(desk, 2, BEFORE);
            String call = "combine(2, " + kind + ", " + Desks.told(a) + ", " + Desks.told(b) + ")";
            int answer = dueAnswer(kind, a, b);
            due.same(call, desk.combine(2, kind, 0, 1), answer);
            Desks.holds(due, call, desk, 2, answer == 0 ? dueNumber(kind, a, b) : BEFORE);
        }
    }

    private static int dueAnswer(int kind, double a, double b) {
        switch (kind) {
            case 0:
            case 7:
                return overOr0(Exact.sum(a, b));
            case 1:
                return overOr0(Exact.sum(a, -b));
            case 2:
                return overOr0(Exact.product(a, b));
            case 3:
                return b == 0 ? RealDesk.ZERO : overOr0(Exact.quotient(a, b));
            case 4:
                return b == 0 ? RealDesk.ZERO : 0;
            case 8:
                return Exact.isSmallProduct(a, b) ? RealDesk.SMALL : overOr0(Exact.product(a, b));
            default:
                return 0;
        }
    }

    private static double dueNumber(int kind, double a, double b) {
        switch (kind) {
            case 0:
                return Exact.sum(a, b);
            case 1:
                return Exact.sum(a, -b);
            case 2:
                return Exact.product(a, b);
            case 3:
                return Exact.quotient(a, b);
            case 4:
                return Exact.rest(a, b);
            case 5:
                return a < b ? a : b;
            case 6:
                return a > b ? a : b;
            case 7:
                return Exact.sumError(a, b);
            default:
                return Exact.productError(a, b);
        }
    }

    private static int overOr0(double x) {
        return Double.isInfinite(x) ? RealDesk.OVER : 0;
    }
}
