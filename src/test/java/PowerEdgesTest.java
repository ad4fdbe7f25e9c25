/** Promise 5, sentence by sentence: the edges of power. */
public final class PowerEdgesTest {
    private static final double LEAST = Samples.LEAST;
    private static final double GREATEST = Samples.GREATEST;

    private PowerEdgesTest() {
    }

    public static void main(String[] args) {
        Sentences sentences = new Sentences();
        sentences.section("Promise 5");
        sentences.test("from the highest to the lowest: squared, and, if the place is 1, multiplied by the base",
            PowerEdgesTest::fromHighest);
        sentences.test("each time what is nearest", PowerEdgesTest::eachNearest);
        sentences.test("beginning with the base", PowerEdgesTest::base);
        sentences.test("(n 0: 1)", PowerEdgesTest::nZero);
        sentences.test("for n below 0 what is nearest to 1 divided by that", PowerEdgesTest::nBelowZero);
        sentences.test("OVER (if anything was): the power", PowerEdgesTest::over);
        sentences.test("OVER (if anything was): the power, for n below 0", PowerEdgesTest::overBeforeDivided);
        sentences.test("OVER (if anything was): 1 divided by the power", PowerEdgesTest::overDivided);
        sentences.test("or ZERO (if that is 0)", PowerEdgesTest::zero);
        sentences.test("a power of 0 for n above 0 is a number", PowerEdgesTest::zeroUndivided);
        sentences.test("IllegalArgumentException when there is no such register", PowerEdgesTest::noSuchRegister);
        sentences.test("IllegalArgumentException when n is not -1024 .. 1024", PowerEdgesTest::nOutside);
        sentences.test("n -1024 and 1024 are of -1024 .. 1024", PowerEdgesTest::nInside);
        sentences.end();
    }

    /** From the lowest place, by n products, or rounded but once, each of these would come out otherwise. */
    private static void fromHighest(Due due) {
        becomes(due, 1.3, 6, 0x1.34ea704bc2766p2);
        becomes(due, 2.1, 6, 0x1.57108205ff1d9p6);
        becomes(due, 1.3, 7, 0x1.91972b95b0005p2);
        becomes(due, 0.1, 10, 0x1.b7cdfd9d7bdc4p-34);
        becomes(due, 0.1, 11, 0x1.5fd7fe179649dp-37);
        becomes(due, 0.1, 100, 0x1.bff2ee48e0564p-333);
        becomes(due, 0.7, 1023, 0x1.81c85741cd46dp-527);
    }

    /** The exact squares are no numbers; two of them lie about half of the least number. */
    private static void eachNearest(Due due) {
        becomes(due, 3 * 0x1p-538, 2, 2 * LEAST);
        becomes(due, 0x1.6a09e667f3bccp-538, 2, 0.0);
        becomes(due, 0x1.6a09e667f3bcdp-538, 2, LEAST);
        becomes(due, 0x1.0000000000001p0, 2, 0x1.0000000000002p0);
        becomes(due, 0x1.fffffffffffffp-1, 3, 0x1.ffffffffffffdp-1);
    }

    private static void base(Due due) {
        for (double a : new double[] {LEAST, 0.1, 3.0, 0x1p-1022, GREATEST}) {
            becomes(due, a, 1, a);
            becomes(due, -a, 1, -a);
        }
        becomes(due, 3.0, 2, 9.0);
        becomes(due, 3.0, 3, 27.0);
        becomes(due, -3.0, 2, 9.0);
        becomes(due, -3.0, 3, -27.0);
        becomes(due, -2.0, 4, 16.0);
        becomes(due, -2.0, 5, -32.0);
    }

    private static void nZero(Due due) {
        for (double a : new double[] {0.0, LEAST, -LEAST, 1.0, -3.0, GREATEST, -GREATEST}) {
            becomes(due, a, 0, 1.0);
        }
    }

    /** Of 0.3 and 0.1 the power of 1 divided by it, and what is nearest to the exact power, are others. */
    private static void nBelowZero(Due due) {
        becomes(due, 0.3, -2, 0x1.638e38e38e38ep3);
        becomes(due, 0.1, -3, 0x1.f3ffffffffffep9);
        becomes(due, 3.0, -1, 0x1.5555555555555p-2);
        becomes(due, -3.0, -1, -0x1.5555555555555p-2);
        becomes(due, -2.0, -2, 0.25);
        becomes(due, -2.0, -3, -0.125);
        becomes(due, GREATEST, -1, 0x1p-1024);
        becomes(due, 0x1p1023, -1, 0x1p-1023);
        becomes(due, 0x1.0000000000004p-1024, -1, 0x1.ffffffffffff8p1023);
    }

    private static void over(Due due) {
        bothSignsOver(due, GREATEST, 2);
        bothSignsOver(due, 0x1p512, 2);
        bothSignsOver(due, GREATEST, 3);
        bothSignsOver(due, 0x1p342, 3);
        bothSignsOver(due, 0x1p600, 1024);
        bothSignsOver(due, 2.0, 1024);
        becomes(due, 0x1.fffffffffffffp511, 2, 0x1.ffffffffffffep1023);
        becomes(due, 0x1p341, 3, 0x1p1023);
        becomes(due, 2.0, 1023, 0x1p1023);
        becomes(due, -2.0, 1023, -0x1p1023);
    }

    /** 1 divided by what was OVER would be a number, or 0. */
    private static void overBeforeDivided(Due due) {
        bothSignsOver(due, 2.0, -1024);
        bothSignsOver(due, 0x1p512, -2);
        bothSignsOver(due, 0x1p342, -3);
        bothSignsOver(due, GREATEST, -2);
        bothSignsOver(due, GREATEST, -1024);
        becomes(due, 2.0, -1023, 0x1p-1023);
        becomes(due, 0x1p511, -2, 0x1p-1022);
    }

    private static void overDivided(Due due) {
        bothSignsOver(due, LEAST, -1);
        bothSignsOver(due, 0x1p-1024, -1);
        bothSignsOver(due, 0.5, -1024);
        bothSignsOver(due, 0x1p-512, -2);
        bothSignsOver(due, 0x1p-537, -2);
        becomes(due, 0.5, -1023, 0x1p1023);
        becomes(due, -0.5, -1023, -0x1p1023);
        becomes(due, 0x1p-1023, -1, 0x1p1023);
    }

    private static void zero(Due due) {
        for (int n : new int[] {-1, -2, -3, -1023, -1024}) {
            answers(due, 0.0, n, RealDesk.ZERO);
        }
        for (double a : new double[] {LEAST, -LEAST, 0x1p-600, -0x1p-600, 0x1p-538}) {
            answers(due, a, -2, RealDesk.ZERO);
            answers(due, a, -3, RealDesk.ZERO);
        }
        answers(due, 0.25, -1024, RealDesk.ZERO);
    }

    private static void zeroUndivided(Due due) {
        for (int n : new int[] {1, 2, 3, 1023, 1024}) {
            becomes(due, 0.0, n, 0.0);
        }
        becomes(due, LEAST, 2, 0.0);
        becomes(due, -LEAST, 3, 0.0);
        becomes(due, 0x1p-600, 2, 0.0);
        becomes(due, 0.25, 1024, 0.0);
    }

    /** 0 to the power of -1 would be answered by ZERO: what is refused comes before that. */
    private static void noSuchRegister(Due due) {
        for (int r : Desks.NO_REGISTERS) {
            for (int n : new int[] {-1, 0, 1, 1024}) {
                throwsArgument(due, r, 0, n);
                throwsArgument(due, 1, r, n);
            }
        }
    }

    private static void nOutside(Due due) {
        for (int n : new int[] {-1025, -1026, 1025, 1026, Integer.MIN_VALUE, Integer.MAX_VALUE}) {
            throwsArgument(due, 1, 0, n);
            throwsArgument(due, 1, 2, n);
        }
    }

    private static void nInside(Due due) {
        becomes(due, -1.0, 1024, 1.0);
        becomes(due, -1.0, -1024, 1.0);
        becomes(due, 0.5, 1024, 0x1p-1024);
        becomes(due, 0x1.8p0, 1024, 0x1.0048c172547c4p599);
    }

    private static void becomes(Due due, double a, int n, double want) {
        for (int to : new int[] {1, 0}) {
            new Trial(due, a).becomes(to, want, call(to, 0, n), desk -> desk.power(to, 0, n));
        }
    }

    private static void bothSignsOver(Due due, double a, int n) {
        answers(due, a, n, RealDesk.OVER);
        answers(due, -a, n, RealDesk.OVER);
    }

    private static void answers(Due due, double a, int n, int answer) {
        for (int to : new int[] {1, 0}) {
            new Trial(due, a).answers(answer, call(to, 0, n), desk -> desk.power(to, 0, n));
        }
    }

    private static void throwsArgument(Due due, int to, int a, int n) {
        new Trial(due, 0.0).throwsArgument(call(to, a, n), desk -> desk.power(to, a, n));
    }

    private static String call(int to, int a, int n) {
        return "power(" + to + ", " + a + ", " + n + ")";
    }
}
