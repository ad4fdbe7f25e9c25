import java.util.function.ToLongFunction;

/** The use of an object, the terms, and promise 1, sentence by sentence. */
public final class TermsEdgesTest {
    private static final double LEAST = Samples.LEAST;
    private static final double GREATEST = Samples.GREATEST;
    private static final long TOP = 1L << 53;
    private static final double ABOVE_1 = 0x1.0000000000001p0;
    private static final double BELOW_1 = 0x1.fffffffffffffp-1;
    private static final double LAST_WITH_E_0 = 0x1.fffffffffffffp52;
    private static final int LAST_CALL = 512;

    private TermsEdgesTest() {
    }

    public static void main(String[] args) {
        Sentences sentences = new Sentences();
        sentences.section("What it is");
        sentences.test("An object is used for at most 512 calls after it has been made", TermsEdgesTest::lastCall);
        sentences.section("Terms");
        sentences.test("A NUMBER is m * 2^e with whole numbers m, below 2^53 in size", TermsEdgesTest::greatestM);
        sentences.test("and e, -1074 ..", TermsEdgesTest::leastE);
        sentences.test("and e, .. 971", TermsEdgesTest::greatestE);
        sentences.test("0 is one number", TermsEdgesTest::oneZero);
        sentences.test("the number that is nearest to it", TermsEdgesTest::nearest);
        sentences.test("of two that are as near that with the even m", TermsEdgesTest::evenOfTwo);
        sentences.test("if both are told with the same e (the greater of the two e's that are possible",
            TermsEdgesTest::evenWithSameE);
        sentences.test("at least -1074)", TermsEdgesTest::evenWithLeastE);
        sentences.test("it is OVER, if that would be 2^1024 or more in size", TermsEdgesTest::over);
        sentences.test("REGISTERS 0 .. 15 have a number each", TermsEdgesTest::eachRegister);
        sentences.test("at first 0", TermsEdgesTest::atFirst);
        sentences.test("What is answered by less than 0 .. leaves all as it was", TermsEdgesTest::answeredBelow0);
        sentences.test("What .. throws, leaves all as it was", TermsEdgesTest::thrown);
        sentences.test("The constants", TermsEdgesTest::constants);
        sentences.section("Promise 1");
        sentences.test("All registers have 0", TermsEdgesTest::newBesideUsed);
        sentences.end();
    }

    private static void lastCall(Due due) {
        RealDesk desk = new RealDesk();
        for (int call = 1; call <= LAST_CALL - 2; call++) {
            due.answer("call " + call + ", change(0, 7, 0)", () -> desk.change(0, 7, 0), 0);
        }
        due.answer("call 511, combine(0, 3, 0, 1)", () -> desk.combine(0, 3, 0, 1), RealDesk.ZERO);
        due.answer("call 512, digits(0)", () -> desk.digits(0), LAST_CALL - 2);
    }

    private static void greatestM(Due due) {
        sets(due, TOP - 1, 0, LAST_WITH_E_0);
        sets(due, -TOP + 1, 0, -LAST_WITH_E_0);
        sets(due, TOP, 0, 0x1p53);
        sets(due, -TOP, 0, -0x1p53);
        combines(due, 0, LAST_WITH_E_0, 1.0, 0x1p53);
        combines(due, 0, 0x1p53, 1.0, 0x1p53);
        combines(due, 0, 0x1p53, 3.0, 0x1.0000000000002p53);
        combines(due, 1, 0x1p53, 1.0, LAST_WITH_E_0);
    }

    private static void leastE(Due due) {
        sets(due, 1, -1074, LEAST);
        sets(due, -1, -1074, -LEAST);
        sets(due, 1, -1075, 0.0);
        combines(due, 3, LEAST, 2.0, 0.0);
        combines(due, 2, LEAST, 0.5, 0.0);
        changes(due, 7, 0.0, LEAST);
        changes(due, 8, LEAST, 0.0);
    }

    private static void greatestE(Due due) {
        sets(due, TOP - 1, 971, GREATEST);
        sets(due, -TOP + 1, 971, -GREATEST);
        new Trial(due).answers(RealDesk.OVER, "set(2, 2^53 - 1, 972)", desk -> desk.set(2, TOP - 1, 972));
        new Trial(due, GREATEST).answers(RealDesk.OVER, "change(2, 7, 0)", desk -> desk.change(2, 7, 0));
        new Trial(due, -GREATEST).answers(RealDesk.OVER, "change(2, 8, 0)", desk -> desk.change(2, 8, 0));
    }

    /** Register 0 has the last number below 0, 1 has -1/2, 2 has 0. */
    private static void oneZero(Due due) {
        isZero(due, "set(9, -1, -1075)", desk -> desk.set(9, -1, -1075));
        isZero(due, "set(9, -1, -1200)", desk -> desk.set(9, -1, -1200));
        isZero(due, "combine(9, 0, 2, 2)", desk -> desk.combine(9, 0, 2, 2));
        isZero(due, "combine(9, 1, 1, 1)", desk -> desk.combine(9, 1, 1, 1));
        isZero(due, "combine(9, 1, 2, 2)", desk -> desk.combine(9, 1, 2, 2));
        isZero(due, "combine(9, 2, 1, 2)", desk -> desk.combine(9, 2, 1, 2));
        isZero(due, "combine(9, 2, 0, 3)", desk -> desk.combine(9, 2, 0, 3));
        isZero(due, "combine(9, 3, 2, 1)", desk -> desk.combine(9, 3, 2, 1));
        isZero(due, "combine(9, 3, 0, 4)", desk -> desk.combine(9, 3, 0, 4));
        isZero(due, "combine(9, 4, 1, 1)", desk -> desk.combine(9, 4, 1, 1));
        isZero(due, "combine(9, 4, 2, 1)", desk -> desk.combine(9, 4, 2, 1));
        isZero(due, "combine(9, 7, 0, 0)", desk -> desk.combine(9, 7, 0, 0));
        isZero(due, "combine(9, 8, 1, 2)", desk -> desk.combine(9, 8, 1, 2));
        isZero(due, "change(9, 0, 2)", desk -> desk.change(9, 0, 2));
        isZero(due, "change(9, 2, 2)", desk -> desk.change(9, 2, 2));
        isZero(due, "change(9, 4, 1)", desk -> desk.change(9, 4, 1));
        isZero(due, "change(9, 5, 1)", desk -> desk.change(9, 5, 1));
        isZero(due, "change(9, 6, 1)", desk -> desk.change(9, 6, 1));
        isZero(due, "change(9, 7, 0)", desk -> desk.change(9, 7, 0));
        isZero(due, "power(9, 0, 3)", desk -> desk.power(9, 0, 3));
    }

    private static void nearest(Due due) {
        sets(due, 3, -1076, LEAST);
        sets(due, 1, -1076, 0.0);
        combines(due, 0, 1.0, 0x1.0000000000001p-53, ABOVE_1);
        combines(due, 0, 1.0, 0x1.fffffffffffffp-54, 1.0);
        combines(due, 1, 1.0, 0x1.0000000000001p-54, BELOW_1);
        combines(due, 1, 1.0, 0x1.fffffffffffffp-55, 1.0);
        combines(due, 2, LEAST, 0x1.0000000000001p-1, LEAST);
        combines(due, 2, LEAST, 0x1.fffffffffffffp-2, 0.0);
        combines(due, 2, ABOVE_1, ABOVE_1, 0x1.0000000000002p0);
        combines(due, 3, 1.0, 3.0, 0x1.5555555555555p-2);
        combines(due, 3, 5.0, 3.0, 0x1.aaaaaaaaaaaabp0);
        changes(due, 2, ABOVE_1, 1.0);
        changes(due, 2, 0x1.0000000000003p0, ABOVE_1);
    }

    private static void evenOfTwo(Due due) {
        combines(due, 0, 1.0, 0x1p-53, 1.0);
        combines(due, 0, ABOVE_1, 0x1p-53, 0x1.0000000000002p0);
        combines(due, 0, 0x1.0000000000002p0, 0x1p-53, 0x1.0000000000002p0);
        combines(due, 0, -1.0, -0x1p-53, -1.0);
        combines(due, 0, -ABOVE_1, -0x1p-53, -0x1.0000000000002p0);
        combines(due, 1, ABOVE_1, 0x1p-53, 1.0);
        combines(due, 2, ABOVE_1, 1.5, 0x1.8000000000002p0);
        combines(due, 2, 0x1.0000000000003p0, 1.5, 0x1.8000000000004p0);
    }

    /** Next to a power of 2, where the numbers on the one side lie twice as near as on the other. */
    private static void evenWithSameE(Due due) {
        combines(due, 0, LAST_WITH_E_0, 0.5, 0x1p53);
        combines(due, 0, 0x1p53, 1.0, 0x1p53);
        combines(due, 0, 0x1.0000000000001p53, 1.0, 0x1.0000000000002p53);
        combines(due, 1, 1.0, 0x1p-54, 1.0);
        combines(due, 1, BELOW_1, 0x1p-54, 0x1.ffffffffffffep-1);
        combines(due, 2, ((1L << 27) - 1) * 0x1p-500, ((1L << 27) + 1) * 0x1p-575, 0x1p-1021);
    }

    private static void evenWithLeastE(Due due) {
        sets(due, 1, -1075, 0.0);
        sets(due, 3, -1075, 2 * LEAST);
        sets(due, 5, -1075, 2 * LEAST);
        sets(due, 7, -1075, 4 * LEAST);
        sets(due, TOP - 1, -1075, 0x1p-1022);
        combines(due, 3, 3 * LEAST, 2.0, 2 * LEAST);
        combines(due, 3, 5 * LEAST, -2.0, -2 * LEAST);
        combines(due, 2, 7 * LEAST, 0.5, 4 * LEAST);
    }

    /** 2^970 is half of what lies between the greatest number and 2^1024, whose m is the even one. */
    private static void over(Due due) {
        combines(due, 0, GREATEST, 0x1.fffffffffffffp969, GREATEST);
        combines(due, 0, -GREATEST, -0x1.fffffffffffffp969, -GREATEST);
        combinesOver(due, 0, GREATEST, 0x1p970);
        combinesOver(due, 0, -GREATEST, -0x1p970);
        combinesOver(due, 1, GREATEST, -0x1p970);
        combinesOver(due, 2, 0x1p512, -0x1p512);
        combines(due, 2, 0x1p512, -0x1p511, -0x1p1023);
        combinesOver(due, 2, ((1L << 27) - 1) * 0x1p485, ((1L << 27) + 1) * 0x1p485);
        combinesOver(due, 3, 0x1p1023, 0.5);
        combinesOver(due, 3, GREATEST, BELOW_1);
        combines(due, 3, 0x1.ffffffffffffep1023, BELOW_1, GREATEST);
        combinesOver(due, 2, GREATEST, GREATEST);
    }

    private static void eachRegister(Due due) {
        for (int register = 0; register < Desks.REGISTERS; register++) {
            int r = register;
            int other = (r + 1) % Desks.REGISTERS;
            double own = Desks.filling(r);
            String becomes = "register " + r + " becomes ";
            new Trial(due).becomes(r, 0.75, becomes + "3/4 by set", desk -> desk.set(r, 3, -2));
            new Trial(due).becomes(r, 2 * own, becomes + "a sum", desk -> desk.combine(r, 0, r, r));
            new Trial(due).becomes(r, -own, becomes + "its negative", desk -> desk.change(r, 0, r));
            new Trial(due).becomes(r, own * own, becomes + "its square", desk -> desk.power(r, r, 2));
            new Trial(due).becomes(other, -own, becomes + "another's negative", desk -> desk.change(other, 0, r));
            new Trial(due).tellsNumber(own, "value(" + r + ")", desk -> desk.value(r));
            new Trial(due).answers(r == 15 ? 1 : -1, "order of it and the next", desk -> desk.order(r, other));
        }
    }

    private static void atFirst(Due due) {
        RealDesk desk = new RealDesk();
        for (int register = 0; register < Desks.REGISTERS; register++) {
            int r = register;
            Desks.holds(due, "register " + r + " at first", desk, r, 0.0);
            due.answer("whole(" + r + ")", () -> desk.whole(r), 0);
        }
    }

    private static void answeredBelow0(Due due) {
        for (int to = 0; to < Desks.REGISTERS; to++) {
            int r = to;
            refuses(due, RealDesk.OVER, "set(" + r + ", 1, 1024)", desk -> desk.set(r, 1, 1024));
            combineRefuses(due, RealDesk.OVER, r, 0, 0, 0);
            combineRefuses(due, RealDesk.OVER, r, 1, 0, 3);
            combineRefuses(due, RealDesk.OVER, r, 2, 0, 3);
            combineRefuses(due, RealDesk.OVER, r, 3, 0, 1);
            combineRefuses(due, RealDesk.OVER, r, 7, 3, 3);
            combineRefuses(due, RealDesk.OVER, r, 8, 0, 3);
            combineRefuses(due, RealDesk.ZERO, r, 3, 0, 2);
            combineRefuses(due, RealDesk.ZERO, r, 4, 0, 2);
            combineRefuses(due, RealDesk.SMALL, r, 8, 1, 1);
            refuses(due, RealDesk.BELOW, "change(" + r + ", 2, 1)", desk -> desk.change(r, 2, 1));
            refuses(due, RealDesk.OVER, "change(" + r + ", 7, 0)", desk -> desk.change(r, 7, 0));
            refuses(due, RealDesk.OVER, "change(" + r + ", 8, 3)", desk -> desk.change(r, 8, 3));
            refuses(due, RealDesk.OVER, "power(" + r + ", 0, 2)", desk -> desk.power(r, 0, 2));
            refuses(due, RealDesk.OVER, "power(" + r + ", 0, -2)", desk -> desk.power(r, 0, -2));
            refuses(due, RealDesk.OVER, "power(" + r + ", 1, -1)", desk -> desk.power(r, 1, -1));
            refuses(due, RealDesk.ZERO, "power(" + r + ", 2, -1)", desk -> desk.power(r, 2, -1));
        }
    }

    private static void thrown(Due due) {
        for (int to = 0; to < Desks.REGISTERS; to++) {
            int r = to;
            refusesArgument(due, "set(" + r + ", 2^53 + 1, 0)", desk -> desk.set(r, TOP + 1, 0));
            refusesArgument(due, "set(" + r + ", 1, 1101)", desk -> desk.set(r, 1, 1101));
            refusesArgument(due, "set(" + r + ", 1, -1201)", desk -> desk.set(r, 1, -1201));
            refusesArgument(due, "combine(" + r + ", 9, 4, 5)", desk -> desk.combine(r, 9, 4, 5));
            refusesArgument(due, "combine(" + r + ", 0, 16, 5)", desk -> desk.combine(r, 0, 16, 5));
            refusesArgument(due, "combine(" + r + ", 0, 4, -1)", desk -> desk.combine(r, 0, 4, -1));
            refusesArgument(due, "change(" + r + ", 9, 4)", desk -> desk.change(r, 9, 4));
            refusesArgument(due, "change(" + r + ", 0, 16)", desk -> desk.change(r, 0, 16));
            refusesArgument(due, "power(" + r + ", 4, 1025)", desk -> desk.power(r, 4, 1025));
            refusesArgument(due, "power(" + r + ", -1, 2)", desk -> desk.power(r, -1, 2));
            trial(due).throwsState("whole(4)", desk -> desk.whole(4));
        }
    }

    private static void constants(Due due) {
        due.same("OVER", RealDesk.OVER, -1);
        due.same("ZERO", RealDesk.ZERO, -2);
        due.same("BELOW", RealDesk.BELOW, -3);
        due.same("SMALL", RealDesk.SMALL, -4);
    }

    /** What other objects have been used for does not show in a new one, nor it in them. */
    private static void newBesideUsed(Due due) {
        RealDesk used = Desks.filled();
        RealDesk fresh = new RealDesk();
        Desks.unchanged(due, "a new object", fresh, new double[Desks.REGISTERS]);
        due.answer("set(3, 7, 0)", () -> fresh.set(3, 7, 0), 0);
        Desks.unchanged(due, "a newer object", new RealDesk(), new double[Desks.REGISTERS]);
        Desks.holds(due, "the used one's register 3", used, 3, Desks.filling(3));
    }

    private static void isZero(Due due, String call, ToLongFunction<RealDesk> made) {
        double[] numbers = {-LEAST, -0.5, 0.0, 0.25, 4.0};
        new Trial(due, numbers).becomes(9, 0.0, call, made);
        new Trial(due, numbers).becomes(9, 0.0, call + ", then order(9, 2)", desk -> {
            made.applyAsLong(desk);
            return desk.order(9, 2);
        });
    }

    private static void sets(Due due, long m, int e, double want) {
        new Trial(due).becomes(2, want, "set(2, " + m + ", " + e + ")", desk -> desk.set(2, m, e));
    }

    private static void combines(Due due, int kind, double a, double b, double want) {
        new Trial(due, a, b).becomes(2, want, "combine(2, " + kind + ", 0, 1)", desk -> desk.combine(2, kind, 0, 1));
    }

    private static void combinesOver(Due due, int kind, double a, double b) {
        String call = "combine(2, " + kind + ", 0, 1)";
        new Trial(due, a, b).answers(RealDesk.OVER, call, desk -> desk.combine(2, kind, 0, 1));
    }

    private static void changes(Due due, int kind, double a, double want) {
        new Trial(due, a).becomes(2, want, "change(2, " + kind + ", 0)", desk -> desk.change(2, kind, 0));
    }

    private static Trial trial(Due due) {
        return new Trial(due, GREATEST, -LEAST, 0.0, -GREATEST);
    }

    private static void refuses(Due due, int answer, String call, ToLongFunction<RealDesk> made) {
        trial(due).answers(answer, call, made);
    }

    private static void combineRefuses(Due due, int answer, int to, int kind, int a, int b) {
        String call = "combine(" + to + ", " + kind + ", " + a + ", " + b + ")";
        refuses(due, answer, call, desk -> desk.combine(to, kind, a, b));
    }

    private static void refusesArgument(Due due, String call, ToLongFunction<RealDesk> made) {
        trial(due).throwsArgument(call, made);
    }
}
