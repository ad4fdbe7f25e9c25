import java.math.BigInteger;

/** Promise 2: set. */
public final class SetTest {
    private static final long TOP = 1L << 53;

    private SetTest() {
    }

    public static void main(String[] args) {
        Due due = new Due("SetTest");
        edges(due);
        rounding(due);
        many(due);
        everyRegister(due);
        wrong(due);
        due.end();
    }

    private static void edges(Due due) {
        long[] ms = {0, 1, 2, 3, 5, 6, 7, (1L << 52) - 1, 1L << 52, (1L << 52) + 1, TOP - 2, TOP - 1, TOP};
        int[] es = {-1200, -1199, -1139, -1138, -1137, -1136, -1135, -1130, -1129, -1128, -1127, -1126, -1125,
            -1077, -1076, -1075, -1074, -1073, -1072, -1023, -1022, -1, 0, 1, 917, 918, 969, 970, 971, 972, 973,
            1018, 1019, 1020, 1021, 1022, 1023, 1024, 1025, 1099, 1100};
        for (long m : ms) {
            for (int e : es) {
                sets(due, m, e);
                sets(due, -m, e);
            }
        }
    }

    private static void rounding(Due due) {
        RealDesk desk = new RealDesk();
        due.same("set(0, 1, -1075)", desk.set(0, 1, -1075), 0);
        due.same("a half of the least, to the even 0", desk.value(0), 0.0);
        due.same("set(0, 3, -1075)", desk.set(0, 3, -1075), 0);
        due.same("one and a half of it, to the even 2", desk.digits(0), 2);
        due.same("set(0, 3, -1076)", desk.set(0, 3, -1076), 0);
        due.same("three quarters of it", desk.digits(0), 1);
        due.same("set(0, -5, -1075)", desk.set(0, -5, -1075), 0);
        due.same("two and a half of it below 0", desk.digits(0), -2);
        due.same("set(0, 2^53 - 1, -1075)", desk.set(0, TOP - 1, -1075), 0);
        due.same("rounded up to 2^52", desk.digits(0), 1L << 52);
    }

    private static void many(Due due) {
        Samples samples = new Samples(2);
        for (int i = 0; i < 30000; i++) {
            sets(due, samples.m(), -1200 + samples.below(2301));
            sets(due, samples.m(), -1140 + samples.below(80));
            sets(due, samples.m(), 965 + samples.below(65));
        }
    }

    private static void everyRegister(Due due) {
        for (int to = 0; to < Desks.REGISTERS; to++) {
            RealDesk desk = Desks.filled();
            double[] want = Desks.all(desk);
            want[to] = -2.5;
            due.same("set(" + to + ", -5, -1)", desk.set(to, -5, -1), 0);
            Desks.unchanged(due, "set(" + to + ", -5, -1)", desk, want);
        }
    }

    private static void wrong(Due due) {
        RealDesk desk = Desks.filled();
        double[] before = Desks.all(desk);
        for (int r : Desks.NO_REGISTERS) {
            due.refused("set(" + r + ", 1, 0)", () -> desk.set(r, 1, 0));
            due.refused("set(" + r + ", 1, 1100)", () -> desk.set(r, 1, 1100));
        }
        for (long m : new long[] {TOP + 1, -TOP - 1, Long.MAX_VALUE, Long.MIN_VALUE, Long.MIN_VALUE + 1, 1L << 54}) {
            due.refused("set(0, " + m + ", 0)", () -> desk.set(0, m, 0));
            due.refused("set(0, " + m + ", 1100)", () -> desk.set(0, m, 1100));
        }
        for (int e : new int[] {-1201, 1101, Integer.MIN_VALUE, Integer.MAX_VALUE}) {
            due.refused("set(0, 1, " + e + ")", () -> desk.set(0, 1, e));
            due.refused("set(0, 0, " + e + ")", () -> desk.set(0, 0, e));
        }
        Desks.unchanged(due, "refused calls of set", desk, before);
    }

    private static void sets(Due due, long m, int e) {
        RealDesk desk = new RealDesk();
        Desks.put(desk, 1, 12.5);
        String call = "set(1, " + m + ", " + e + ")";
        double want = Exact.nearest(BigInteger.valueOf(m), e);
        boolean over = Double.isInfinite(want);
        due.same(call, desk.set(1, m, e), over ? RealDesk.OVER : 0);
        Desks.holds(due, call, desk, 1, over ? 12.5 : want);
    }
}
