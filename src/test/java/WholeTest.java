import java.math.BigInteger;

/** Promise 10: whole. */
public final class WholeTest {
    private WholeTest() {
    }

    public static void main(String[] args) {
        Due due = new Due("WholeTest");
        given(due);
        for (double x : Samples.edges()) {
            byDocument(due, x);
        }
        Samples samples = new Samples(10);
        for (int i = 0; i < 30000; i++) {
            byDocument(due, samples.number(-60, 14));
            byDocument(due, samples.number(-4, 13));
            byDocument(due, samples.anyNumber());
        }
        wrong(due);
        due.end();
    }

    private static void given(Due due) {
        RealDesk desk = new RealDesk();
        due.same("0", desk.whole(0), 0);
        due.same("set(0, 6, -1)", desk.set(0, 6, -1), 0);
        due.same("3", desk.whole(0), 3);
        due.same("set(0, -7, 1)", desk.set(0, -7, 1), 0);
        due.same("-14", desk.whole(0), -14);
        due.same("set(0, -1, 63)", desk.set(0, -1, 63), 0);
        due.same("-2^63", desk.whole(0), Long.MIN_VALUE);
        due.same("below it", desk.change(1, 8, 0), 0);
        due.throwsState("whole of what is below -2^63", () -> desk.whole(1));
        due.same("above it", desk.change(1, 7, 0), 0);
        due.same("-2^63 + 1024", desk.whole(1), Long.MIN_VALUE + 1024);
        due.same("set(0, 1, 63)", desk.set(0, 1, 63), 0);
        due.throwsState("whole of 2^63", () -> desk.whole(0));
        due.same("below it", desk.change(1, 8, 0), 0);
        due.same("2^63 - 1024", desk.whole(1), Long.MAX_VALUE - 1023);
        due.same("set(0, 1, -1)", desk.set(0, 1, -1), 0);
        due.throwsState("whole of 1/2", () -> desk.whole(0));
        due.same("set(0, -1, -1074)", desk.set(0, -1, -1074), 0);
        due.throwsState("whole of the last below 0", () -> desk.whole(0));
        due.same("set(0, 1, 1023)", desk.set(0, 1, 1023), 0);
        due.throwsState("whole of 2^1023", () -> desk.whole(0));
    }

    private static void byDocument(Due due, double x) {
        RealDesk desk = new RealDesk();
        Desks.put(desk, 7, x);
        BigInteger[] parts = Exact.units(x).divideAndRemainder(BigInteger.ONE.shiftLeft(1074));
        String call = "whole of " + Desks.told(x);
        if (parts[1].signum() != 0 || parts[0].bitLength() > 63) {
            due.throwsState(call, () -> desk.whole(7));
        } else {
            due.answer(call, () -> desk.whole(7), parts[0].longValueExact());
        }
        due.same(call + ", then value", desk.value(7), x);
    }

    private static void wrong(Due due) {
        RealDesk desk = Desks.filled();
        for (int r : Desks.NO_REGISTERS) {
            due.refused("whole(" + r + ")", () -> desk.whole(r));
        }
        for (int r = 0; r < Desks.REGISTERS; r++) {
            int of = r;
            due.throwsState("whole(" + r + ") of a quarter more", () -> desk.whole(of));
            due.same("set(" + r + ", -3, 2)", desk.set(r, -3, 2), 0);
            due.same("whole(" + r + ")", desk.whole(r), -12);
        }
    }
}
