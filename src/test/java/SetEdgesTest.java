/** Promise 2, sentence by sentence: the edges of set. */
public final class SetEdgesTest {
    private static final long TOP = 1L << 53;
    private static final double LEAST = Samples.LEAST;
    private static final double GREATEST = Samples.GREATEST;

    private SetEdgesTest() {
    }

    public static void main(String[] args) {
        Sentences sentences = new Sentences();
        sentences.section("Promise 2");
        sentences.test("A register becomes what is nearest to m * 2^e", SetEdgesTest::nearest);
        sentences.test("0, or OVER: OVER", SetEdgesTest::over);
        sentences.test("0, or OVER: 0", SetEdgesTest::notOver);
        sentences.test("IllegalArgumentException when there is no such register", SetEdgesTest::noSuchRegister);
        sentences.test("IllegalArgumentException when m is above 2^53 in size", SetEdgesTest::mAbove);
        sentences.test("m 2^53 in size is none above it", SetEdgesTest::mNotAbove);
        sentences.test("IllegalArgumentException when e is not -1200 .. 1100", SetEdgesTest::eOutside);
        sentences.test("e -1200 and 1100 are of -1200 .. 1100", SetEdgesTest::eInside);
        sentences.end();
    }

    private static void nearest(Due due) {
        bothSigns(due, 1, -1074, LEAST);
        bothSigns(due, 1, -1075, 0.0);
        bothSigns(due, 3, -1076, LEAST);
        bothSigns(due, 1, -1076, 0.0);
        bothSigns(due, 3, -1075, 2 * LEAST);
        bothSigns(due, 5, -1075, 2 * LEAST);
        bothSigns(due, 7, -1075, 4 * LEAST);
        bothSigns(due, TOP - 1, -1075, 0x1p-1022);
        bothSigns(due, TOP - 3, -1075, 0x1p-1022 - 2 * LEAST);
        bothSigns(due, TOP, -1128, 0.0);
        bothSigns(due, TOP - 1, -1128, 0.0);
        bothSigns(due, TOP / 2 + 1, -1127, LEAST);
        bothSigns(due, TOP, -1127, LEAST);
        bothSigns(due, TOP - 1, -1127, LEAST);
        bothSigns(due, TOP - 1, -1074, 0x1.fffffffffffffp-1022);
    }

    private static void over(Due due) {
        bothSignsOver(due, 1, 1024);
        bothSignsOver(due, 1, 1100);
        bothSignsOver(due, TOP, 971);
        bothSignsOver(due, TOP, 1100);
        bothSignsOver(due, TOP - 1, 972);
        bothSignsOver(due, TOP / 2, 972);
        bothSignsOver(due, 3, 1023);
    }

    private static void notOver(Due due) {
        bothSigns(due, 1, 1023, 0x1p1023);
        bothSigns(due, 3, 1022, 0x1.8p1023);
        bothSigns(due, TOP, 970, 0x1p1023);
        bothSigns(due, TOP - 1, 971, GREATEST);
        bothSigns(due, TOP / 2, 971, 0x1p1023);
        bothSigns(due, 0, 1100, 0.0);
    }

    private static void noSuchRegister(Due due) {
        for (int r : Desks.NO_REGISTERS) {
            throwsArgument(due, r, 1, 0);
            throwsArgument(due, r, 0, 0);
            throwsArgument(due, r, 1, 1100);
        }
    }

    private static void mAbove(Due due) {
        for (long m : new long[] {TOP + 1, TOP + 2, 2 * TOP, Long.MAX_VALUE, Long.MIN_VALUE + 1}) {
            throwsArgument(due, 2, m, 0);
            throwsArgument(due, 2, -m, 0);
            throwsArgument(due, 2, m, 1100);
            throwsArgument(due, 2, -m, -1200);
        }
        throwsArgument(due, 2, Long.MIN_VALUE, 0);
        throwsArgument(due, 2, Long.MIN_VALUE, -1200);
    }

    private static void mNotAbove(Due due) {
        bothSigns(due, TOP, 0, 0x1p53);
        bothSigns(due, TOP, -1074, 0x1p-1021);
        bothSigns(due, TOP - 1, 0, 0x1.fffffffffffffp52);
    }

    private static void eOutside(Due due) {
        for (int e : new int[] {-1201, -1202, 1101, 1102, Integer.MIN_VALUE, Integer.MAX_VALUE}) {
            throwsArgument(due, 2, 1, e);
            throwsArgument(due, 2, 0, e);
            throwsArgument(due, 2, -TOP, e);
        }
    }

    private static void eInside(Due due) {
        bothSigns(due, 1, -1200, 0.0);
        bothSigns(due, TOP, -1200, 0.0);
        bothSigns(due, 0, -1200, 0.0);
        bothSigns(due, 0, 1100, 0.0);
        bothSignsOver(due, 1, 1100);
    }

    private static void bothSigns(Due due, long m, int e, double want) {
        becomes(due, m, e, want);
        becomes(due, -m, e, Desks.otherSign(want));
    }

    private static void becomes(Due due, long m, int e, double want) {
        new Trial(due).becomes(2, want, call(2, m, e), desk -> desk.set(2, m, e));
    }

    private static void bothSignsOver(Due due, long m, int e) {
        new Trial(due).answers(RealDesk.OVER, call(2, m, e), desk -> desk.set(2, m, e));
        new Trial(due).answers(RealDesk.OVER, call(2, -m, e), desk -> desk.set(2, -m, e));
    }

    private static void throwsArgument(Due due, int to, long m, int e) {
        new Trial(due).throwsArgument(call(to, m, e), desk -> desk.set(to, m, e));
    }

    private static String call(int to, long m, int e) {
        return "set(" + to + ", " + m + ", " + e + ")";
    }
}
