/** Promise 4: change. */
public final class ChangeTest {
    private static final double BEFORE = 12.5;

    private ChangeTest() {
    }

    public static void main(String[] args) {
        Due due = new Due("ChangeTest");
        ordinary(due);
        edges(due);
        many(due);
        squares(due);
        neighboursThere(due);
        leavesOthers(due);
        wrong(due);
        due.end();
    }

    private static void ordinary(Due due) {
        double[] of = {2.25, -2.25, 2.5, 3.5, -2.5, -0.5, 0.0};
        double[][] want = {
            {-2.25, 2.25, -2.5, -3.5, 2.5, 0.5, 0.0},
            {2.25, 2.25, 2.5, 3.5, 2.5, 0.5, 0.0},
            {1.5, BEFORE, 0x1.94c583ada5b53p0, 0x1.deeea11683f49p0, BEFORE, BEFORE, 0.0},
            {2.0, -3.0, 2.0, 3.0, -3.0, -1.0, 0.0},
            {3.0, -2.0, 3.0, 4.0, -2.0, 0.0, 0.0},
            {2.0, -2.0, 2.0, 3.0, -2.0, 0.0, 0.0},
            {2.0, -2.0, 2.0, 4.0, -2.0, 0.0, 0.0},
            {0x1.2000000000001p1, -0x1.1ffffffffffffp1, 0x1.4000000000001p1, 0x1.c000000000001p1,
                -0x1.3ffffffffffffp1, -0x1.fffffffffffffp-2, 0x1p-1074},
            {0x1.1ffffffffffffp1, -0x1.2000000000001p1, 0x1.3ffffffffffffp1, 0x1.bffffffffffffp1,
                -0x1.4000000000001p1, -0x1.0000000000001p-1, -0x1p-1074}
        };
        for (int kind = 0; kind <= 8; kind++) {
            for (int i = 0; i < of.length; i++) {
                RealDesk desk = new RealDesk();
                Desks.put(desk, 0, of[i]);
                Desks.put(desk, 1, BEFORE);
                String call = "change(1, " + kind + ", " + of[i] + ")";
                due.same(call, desk.change(1, kind, 0), kind == 2 && of[i] < 0 ? RealDesk.BELOW : 0);
                due.same(call, desk.value(1), want[kind][i]);
            }
        }
    }

    private static void edges(Due due) {
        for (double a : Samples.edges()) {
            allKinds(due, a);
        }
        for (int whole = -9; whole <= 9; whole++) {
            allKinds(due, whole + 0.5);
            allKinds(due, Math.nextUp(whole + 0.5));
            allKinds(due, Math.nextDown(whole + 0.5));
            allKinds(due, whole);
        }
    }

    private static void many(Due due) {
        Samples samples = new Samples(4);
        for (int i = 0; i < 20000; i++) {
            allKinds(due, samples.anyNumber());
            allKinds(due, samples.number(-56, 2));
            allKinds(due, samples.number(-1074, -1022));
        }
    }

    /** Roots that are exact, and those next to them, which are all but exact. */
    private static void squares(Due due) {
        Samples samples = new Samples(44);
        for (int i = 0; i < 5000; i++) {
            double root = Math.abs(samples.m()) >>> 27;
            double square = Math.scalb(root * root, 2 * (samples.below(1000) - 537));
            allKinds(due, square);
            allKinds(due, Math.nextUp(square));
            allKinds(due, Math.nextDown(square));
        }
    }

    private static void neighboursThere(Due due) {
        RealDesk desk = new RealDesk();
        double greatest = 0x1.fffffffffffffp1023;
        Desks.put(desk, 0, greatest);
        due.same("above the greatest", desk.change(1, 7, 0), RealDesk.OVER);
        due.same("below the greatest", desk.change(1, 8, 0), 0);
        due.same("and above that", desk.change(1, 7, 1), 0);
        due.same("the greatest again", desk.order(0, 1), 0);
        Desks.put(desk, 0, -greatest);
        due.same("below the least", desk.change(0, 8, 0), RealDesk.OVER);
        due.same("still the least", desk.value(0), -greatest);
        due.same("above the least", desk.change(0, 7, 0), 0);
        due.same("and below that", desk.change(0, 8, 0), 0);
        due.same("the least again", desk.value(0), -greatest);
    }

    private static void leavesOthers(Due due) {
        for (int kind = 0; kind <= 8; kind++) {
            for (int to = 0; to < Desks.REGISTERS; to++) {
                for (int a : new int[] {to, (to + 5) % 16}) {
                    RealDesk desk = Desks.filled();
                    double[] want = Desks.all(desk);
                    want[to] = dueNumber(kind, want[a]);
                    String call = "change(" + to + ", " + kind + ", " + a + ")";
                    due.same(call, desk.change(to, kind, a), 0);
                    Desks.unchanged(due, call, desk, want);
                }
            }
        }
    }

    private static void wrong(Due due) {
        RealDesk desk = Desks.filled();
        Desks.put(desk, 9, -1.0);
        double[] before = Desks.all(desk);
        for (int r : Desks.NO_REGISTERS) {
            for (int kind = 0; kind <= 8; kind++) {
                int k = kind;
                due.refused("change(" + r + ", " + k + ", 9)", () -> desk.change(r, k, 9));
                due.refused("change(0, " + k + ", " + r + ")", () -> desk.change(0, k, r));
            }
        }
        for (int kind : Desks.NO_KINDS) {
            due.refused("change(0, " + kind + ", 9)", () -> desk.change(0, kind, 9));
        }
        Desks.unchanged(due, "refused calls of change", desk, before);
    }

    private static void allKinds(Due due, double a) {
        RealDesk desk = new RealDesk();
        Desks.put(desk, 0, a);
        for (int kind = 0; kind <= 8; kind++) {
            Desks.put(desk, 2, BEFORE);
            String call = "change(2, " + kind + ", " + Desks.told(a) + ")";
            int answer = dueAnswer(kind, a);
            due.same(call, desk.change(2, kind, 0), answer);
            Desks.holds(due, call, desk, 2, answer == 0 ? dueNumber(kind, a) : BEFORE);
        }
    }

    private static int dueAnswer(int kind, double a) {
        if (kind == 2 && a < 0) {
            return RealDesk.BELOW;
        }
        return kind >= 7 && Double.isInfinite(dueNumber(kind, a)) ? RealDesk.OVER : 0;
    }

    private static double dueNumber(int kind, double a) {
        switch (kind) {
            case 0:
                return Desks.otherSign(a);
            case 1:
                return Math.abs(a);
            case 2:
                return Exact.root(a);
            case 3:
                return Exact.floor(a);
            case 4:
                return Exact.ceiling(a);
            case 5:
                return a < 0 ? Exact.ceiling(a) : Exact.floor(a);
            case 6:
                return Exact.nearestWhole(a);
            case 7:
                return Math.nextUp(a) + 0.0;
            default:
                return Math.nextDown(a) + 0.0;
        }
    }
}
