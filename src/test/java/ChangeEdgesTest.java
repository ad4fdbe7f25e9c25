/** Promise 4, sentence by sentence: the edges of change. */
public final class ChangeEdgesTest {
    private static final int OTHER_SIGN = 0;
    private static final int SIZE = 1;
    private static final int ROOT = 2;
    private static final int DOWN = 3;
    private static final int UP = 4;
    private static final int INWARD = 5;
    private static final int NEAREST = 6;
    private static final int ABOVE = 7;
    private static final int BELOW = 8;
    private static final int LAST_KIND = 8;

    private static final double LEAST = Samples.LEAST;
    private static final double GREATEST = Samples.GREATEST;
    private static final double ABOVE_1 = 0x1.0000000000001p0;
    private static final double BELOW_1 = 0x1.fffffffffffffp-1;
    private static final double BELOW_HALF = 0x1.fffffffffffffp-2;
    private static final double ABOVE_HALF = 0x1.0000000000001p-1;
    /** The greatest number that is not whole, 2^52 - 1/2. */
    private static final double LAST_PART = 0x1.fffffffffffffp51;
    /** 2^51 + 1/2, between two whole numbers of which the lesser is even. */
    private static final double PART = 0x1.0000000000001p51;
    private static final double GREATEST_BUT_ONE = 0x1.ffffffffffffep1023;

    private ChangeEdgesTest() {
    }

    public static void main(String[] args) {
        Sentences sentences = new Sentences();
        sentences.section("Promise 4");
        sentences.test("the number with the other sign (kind 0)", ChangeEdgesTest::otherSign);
        sentences.test("its size (1)", ChangeEdgesTest::size);
        sentences.test("what is nearest to its root (2)", ChangeEdgesTest::root);
        sentences.test("the greatest whole number that is not above it (3)", ChangeEdgesTest::down);
        sentences.test("the least that is not below it (4)", ChangeEdgesTest::up);
        sentences.test("the one of these two that is nearer to 0 (5)", ChangeEdgesTest::inward);
        sentences.test("what is nearer to it (6)", ChangeEdgesTest::nearest);
        sentences.test("of two as near the even one (6)", ChangeEdgesTest::nearestEven);
        sentences.test("the least number above it (7)", ChangeEdgesTest::above);
        sentences.test("the greatest below it (8)", ChangeEdgesTest::below);
        sentences.test("what is whole is its own whole number (3, 4, 5, 6)", ChangeEdgesTest::wholeAlready);
        sentences.test("BELOW (2)", ChangeEdgesTest::rootBelow);
        sentences.test("OVER (7 and 8, if there is none): kind 7", due -> noneBeyond(due, ABOVE, GREATEST));
        sentences.test("OVER (7 and 8, if there is none): kind 8", due -> noneBeyond(due, BELOW, -GREATEST));
        sentences.test("IllegalArgumentException when there is no such register", ChangeEdgesTest::noSuchRegister);
        sentences.test("IllegalArgumentException when there is no such kind", ChangeEdgesTest::noSuchKind);
        sentences.end();
    }

    private static void otherSign(Due due) {
        for (double a : new double[] {LEAST, 1.0, 0.1, 0x1p-1022, GREATEST}) {
            becomes(due, OTHER_SIGN, a, -a);
            becomes(due, OTHER_SIGN, -a, a);
        }
        becomes(due, OTHER_SIGN, 0.0, 0.0);
    }

    private static void size(Due due) {
        for (double a : new double[] {LEAST, 1.0, 0.1, 0x1p-1022, GREATEST}) {
            becomes(due, SIZE, a, a);
            becomes(due, SIZE, -a, a);
        }
        becomes(due, SIZE, 0.0, 0.0);
    }

    private static void root(Due due) {
        becomes(due, ROOT, 0.0, 0.0);
        becomes(due, ROOT, 1.0, 1.0);
        becomes(due, ROOT, 2.25, 1.5);
        becomes(due, ROOT, 2.0, 0x1.6a09e667f3bcdp0);
        // These roots lie a little below the middle of two numbers.
        becomes(due, ROOT, ABOVE_1, 1.0);
        becomes(due, ROOT, BELOW_1, BELOW_1);
        becomes(due, ROOT, LEAST, 0x1p-537);
        becomes(due, ROOT, 2 * LEAST, 0x1.6a09e667f3bcdp-537);
        becomes(due, ROOT, 0x1p-1022, 0x1p-511);
        becomes(due, ROOT, GREATEST, 0x1.fffffffffffffp511);
        becomes(due, ROOT, 0x1p1022, 0x1p511);
        becomes(due, ROOT, (double) ((1L << 26) - 1) * ((1L << 26) - 1), (1L << 26) - 1);
    }

    private static void down(Due due) {
        becomes(due, DOWN, LEAST, 0.0);
        becomes(due, DOWN, -LEAST, -1.0);
        becomes(due, DOWN, BELOW_1, 0.0);
        becomes(due, DOWN, -BELOW_1, -1.0);
        becomes(due, DOWN, ABOVE_1, 1.0);
        becomes(due, DOWN, -ABOVE_1, -2.0);
        becomes(due, DOWN, LAST_PART, 0x1.ffffffffffffep51);
        becomes(due, DOWN, -LAST_PART, -0x1p52);
    }

    private static void up(Due due) {
        becomes(due, UP, LEAST, 1.0);
        becomes(due, UP, -LEAST, 0.0);
        becomes(due, UP, BELOW_1, 1.0);
        becomes(due, UP, -BELOW_1, 0.0);
        becomes(due, UP, ABOVE_1, 2.0);
        becomes(due, UP, -ABOVE_1, -1.0);
        becomes(due, UP, LAST_PART, 0x1p52);
        becomes(due, UP, -LAST_PART, -0x1.ffffffffffffep51);
    }

    private static void inward(Due due) {
        bothSigns(due, INWARD, LEAST, 0.0);
        bothSigns(due, INWARD, BELOW_1, 0.0);
        bothSigns(due, INWARD, ABOVE_1, 1.0);
        bothSigns(due, INWARD, 0x1.fffffffffffffp0, 1.0);
        bothSigns(due, INWARD, LAST_PART, 0x1.ffffffffffffep51);
    }

    private static void nearest(Due due) {
        bothSigns(due, NEAREST, LEAST, 0.0);
        bothSigns(due, NEAREST, BELOW_HALF, 0.0);
        bothSigns(due, NEAREST, ABOVE_HALF, 1.0);
        bothSigns(due, NEAREST, BELOW_1, 1.0);
        bothSigns(due, NEAREST, ABOVE_1, 1.0);
        bothSigns(due, NEAREST, 0x1.7ffffffffffffp0, 1.0);
        bothSigns(due, NEAREST, 0x1.3ffffffffffffp1, 2.0);
        bothSigns(due, NEAREST, 0x1.4000000000001p1, 3.0);
    }

    private static void nearestEven(Due due) {
        bothSigns(due, NEAREST, 0.5, 0.0);
        bothSigns(due, NEAREST, 1.5, 2.0);
        bothSigns(due, NEAREST, 2.5, 2.0);
        bothSigns(due, NEAREST, 3.5, 4.0);
        bothSigns(due, NEAREST, LAST_PART, 0x1p52);
        bothSigns(due, NEAREST, PART, 0x1p51);
    }

    private static void above(Due due) {
        becomes(due, ABOVE, 0.0, LEAST);
        becomes(due, ABOVE, LEAST, 2 * LEAST);
        becomes(due, ABOVE, -LEAST, 0.0);
        becomes(due, ABOVE, 0x0.fffffffffffffp-1022, 0x1p-1022);
        becomes(due, ABOVE, -0x1p-1022, -0x0.fffffffffffffp-1022);
        becomes(due, ABOVE, 1.0, ABOVE_1);
        becomes(due, ABOVE, BELOW_1, 1.0);
        becomes(due, ABOVE, -1.0, -BELOW_1);
        becomes(due, ABOVE, -ABOVE_1, -1.0);
        becomes(due, ABOVE, GREATEST_BUT_ONE, GREATEST);
        becomes(due, ABOVE, -GREATEST, -GREATEST_BUT_ONE);
    }

    private static void below(Due due) {
        becomes(due, BELOW, 0.0, -LEAST);
        becomes(due, BELOW, -LEAST, -2 * LEAST);
        becomes(due, BELOW, LEAST, 0.0);
        becomes(due, BELOW, 0x1p-1022, 0x0.fffffffffffffp-1022);
        becomes(due, BELOW, -0x0.fffffffffffffp-1022, -0x1p-1022);
        becomes(due, BELOW, 1.0, BELOW_1);
        becomes(due, BELOW, ABOVE_1, 1.0);
        becomes(due, BELOW, -1.0, -ABOVE_1);
        becomes(due, BELOW, -BELOW_1, -1.0);
        becomes(due, BELOW, GREATEST, GREATEST_BUT_ONE);
        becomes(due, BELOW, -GREATEST_BUT_ONE, -GREATEST);
    }

    private static void wholeAlready(Due due) {
        for (double a : new double[] {0.0, 1.0, 3.0, 0x1p52, 0x1.0000000000001p52, 0x1p53, 0x1p63, GREATEST}) {
            for (int kind = DOWN; kind <= NEAREST; kind++) {
                bothSigns(due, kind, a, a);
            }
        }
    }

    private static void rootBelow(Due due) {
        for (double a : new double[] {-LEAST, -1.0, -2.25, -0x1p-1022, -GREATEST}) {
            answers(due, ROOT, a, RealDesk.BELOW);
        }
    }

    private static void noneBeyond(Due due, int kind, double last) {
        answers(due, kind, last, RealDesk.OVER);
    }

    /** The root of what is below 0 would be answered by BELOW: what is refused comes before that. */
    private static void noSuchRegister(Due due) {
        for (int r : Desks.NO_REGISTERS) {
            for (int kind = 0; kind <= LAST_KIND; kind++) {
                throwsArgument(due, r, kind, 0);
                throwsArgument(due, 2, kind, r);
            }
        }
    }

    private static void noSuchKind(Due due) {
        for (int kind : Desks.NO_KINDS) {
            throwsArgument(due, 2, kind, 0);
            throwsArgument(due, 2, kind, 3);
        }
    }

    /** The register that becomes it is another one, or its own. */
    private static void becomes(Due due, int kind, double a, double want) {
        for (int to : new int[] {1, 0}) {
            new Trial(due, a).becomes(to, want, call(to, kind, 0), desk -> desk.change(to, kind, 0));
        }
    }

    private static void bothSigns(Due due, int kind, double a, double want) {
        becomes(due, kind, a, want);
        becomes(due, kind, Desks.otherSign(a), Desks.otherSign(want));
    }

    private static void answers(Due due, int kind, double a, int answer) {
        for (int to : new int[] {1, 0}) {
            new Trial(due, a).answers(answer, call(to, kind, 0), desk -> desk.change(to, kind, 0));
        }
    }

    private static void throwsArgument(Due due, int to, int kind, int a) {
        new Trial(due, -1.0).throwsArgument(call(to, kind, a), desk -> desk.change(to, kind, a));
    }

    private static String call(int to, int kind, int a) {
        return "change(" + to + ", " + kind + ", " + a + ")";
    }
}
