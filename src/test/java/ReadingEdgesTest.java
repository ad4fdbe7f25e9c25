/** Promises 6 to 10, sentence by sentence: the edges of order, digits, exponent, value and whole. */
public final class ReadingEdgesTest {
    private static final double LEAST = Samples.LEAST;
    private static final double GREATEST = Samples.GREATEST;
    private static final long FULL_M = 1L << 52;
    private static final long LAST_M = (1L << 53) - 1;

    private ReadingEdgesTest() {
    }

    public static void main(String[] args) {
        Sentences sentences = new Sentences();
        sentences.section("Promise 6");
        sentences.test("whether a register's number is less than another one's, the same, or greater",
            ReadingEdgesTest::orders);
        sentences.test("IllegalArgumentException when there is no such register", ReadingEdgesTest::orderNoRegister);
        sentences.section("Promise 7");
        sentences.test("A register's m, if its size is to be 2^52 at least", ReadingEdgesTest::fullDigits);
        sentences.test("or e -1074", ReadingEdgesTest::fewDigits);
        sentences.test("(0 for 0)", due -> digits(due, 0.0, 0));
        sentences.test("IllegalArgumentException when there is no such register", ReadingEdgesTest::digitsNoRegister);
        sentences.section("Promise 8");
        sentences.test("Its e for that", ReadingEdgesTest::exponents);
        sentences.test("(-1074 for 0)", due -> exponent(due, 0.0, -1074));
        sentences.test("IllegalArgumentException likewise", ReadingEdgesTest::exponentNoRegister);
        sentences.section("Promise 9");
        sentences.test("The register's number", ReadingEdgesTest::values);
        sentences.test("IllegalArgumentException likewise", ReadingEdgesTest::valueNoRegister);
        sentences.section("Promise 10");
        sentences.test("Its number as a whole one", ReadingEdgesTest::wholes);
        sentences.test("IllegalArgumentException likewise", ReadingEdgesTest::wholeNoRegister);
        sentences.test("IllegalStateException when it is none", ReadingEdgesTest::notWhole);
        sentences.test("or not within -2^63 .. 2^63 - 1: below", ReadingEdgesTest::wholeTooLow);
        sentences.test("or not within -2^63 .. 2^63 - 1: above", ReadingEdgesTest::wholeTooHigh);
        sentences.end();
    }

    private static void orders(Due due) {
        double[] rising = {-GREATEST, -0x1.ffffffffffffep1023, -0x1.0000000000001p0, -1.0, -0x1.fffffffffffffp-1,
            -0x1p-1022, -0x0.fffffffffffffp-1022, -2 * LEAST, -LEAST, 0.0, LEAST, 2 * LEAST,
            0x0.fffffffffffffp-1022, 0x1p-1022, 0x1.fffffffffffffp-1, 1.0, 0x1.0000000000001p0,
            0x1.ffffffffffffep1023, GREATEST};
        for (int i = 0; i < rising.length; i++) {
            for (int j = 0; j < rising.length; j++) {
                int want = Integer.compare(i, j);
                new Trial(due, rising[i], rising[j]).answers(want, "order(0, 1)", desk -> desk.order(0, 1));
            }
            new Trial(due, rising[i]).answers(0, "order(0, 0)", desk -> desk.order(0, 0));
        }
    }

    private static void orderNoRegister(Due due) {
        for (int r : Desks.NO_REGISTERS) {
            new Trial(due).throwsArgument("order(" + r + ", 0)", desk -> desk.order(r, 0));
            new Trial(due).throwsArgument("order(0, " + r + ")", desk -> desk.order(0, r));
            new Trial(due).throwsArgument("order(" + r + ", " + r + ")", desk -> desk.order(r, r));
        }
    }

    private static void fullDigits(Due due) {
        digits(due, 1.0, FULL_M);
        digits(due, 0x1.fffffffffffffp-1, LAST_M);
        digits(due, 0x1p53, FULL_M);
        digits(due, 0x1.fffffffffffffp52, LAST_M);
        digits(due, GREATEST, LAST_M);
        digits(due, 0x1p1023, FULL_M);
        digits(due, 0x1p-1021, FULL_M);
        digits(due, 0x1.0000000000001p-1021, FULL_M + 1);
    }

    private static void fewDigits(Due due) {
        digits(due, LEAST, 1);
        digits(due, 2 * LEAST, 2);
        digits(due, 0x1p-1023, FULL_M / 2);
        digits(due, 0x0.fffffffffffffp-1022, FULL_M - 1);
        digits(due, 0x1p-1022, FULL_M);
        digits(due, 0x1.fffffffffffffp-1022, LAST_M);
    }

    private static void digitsNoRegister(Due due) {
        for (int r : Desks.NO_REGISTERS) {
            new Trial(due).throwsArgument("digits(" + r + ")", desk -> desk.digits(r));
        }
    }

    private static void exponents(Due due) {
        exponent(due, 1.0, -52);
        exponent(due, 0x1.fffffffffffffp-1, -53);
        exponent(due, 0x1p53, 1);
        exponent(due, 0x1.fffffffffffffp52, 0);
        exponent(due, GREATEST, 971);
        exponent(due, 0x1p1023, 971);
        exponent(due, 0x1.fffffffffffffp1022, 970);
        exponent(due, LEAST, -1074);
        exponent(due, 0x0.fffffffffffffp-1022, -1074);
        exponent(due, 0x1p-1022, -1074);
        exponent(due, 0x1.fffffffffffffp-1022, -1074);
        exponent(due, 0x1p-1021, -1073);
    }

    private static void exponentNoRegister(Due due) {
        for (int r : Desks.NO_REGISTERS) {
            new Trial(due).throwsArgument("exponent(" + r + ")", desk -> desk.exponent(r));
        }
    }

    private static void values(Due due) {
        double[] numbers = {LEAST, 3 * LEAST, 0x0.fffffffffffffp-1022, 0x1p-1022, 0x1.fffffffffffffp-1022, 0x1p-1021,
            0x1.fffffffffffffp-1, 1.0, 0.1, 0x1p53, 0x1p1023, GREATEST};
        new Trial(due, 0.0).tellsNumber(0.0, "value(0)", desk -> desk.value(0));
        for (double x : numbers) {
            new Trial(due, x).tellsNumber(x, "value(0)", desk -> desk.value(0));
            new Trial(due, -x).tellsNumber(-x, "value(0)", desk -> desk.value(0));
        }
    }

    private static void valueNoRegister(Due due) {
        for (int r : Desks.NO_REGISTERS) {
            new Trial(due).throwsArgument("value(" + r + ")", desk -> (long) desk.value(r));
        }
    }

    private static void wholes(Due due) {
        whole(due, 0.0, 0);
        whole(due, 1.0, 1);
        whole(due, -1.0, -1);
        whole(due, 0x1.ffffffffffffep51, FULL_M - 1);
        whole(due, 0x1.0000000000001p52, FULL_M + 1);
        whole(due, -0x1.fffffffffffffp52, -LAST_M);
        whole(due, 0x1p53, 1L << 53);
        whole(due, 0x1.0000000000001p53, (1L << 53) + 2);
        whole(due, 0x1p62, 1L << 62);
        whole(due, 0x1.fffffffffffffp62, Long.MAX_VALUE - 1023);
        whole(due, -0x1.fffffffffffffp62, -Long.MAX_VALUE + 1023);
        whole(due, -0x1p63, Long.MIN_VALUE);
    }

    private static void wholeNoRegister(Due due) {
        for (int r : Desks.NO_REGISTERS) {
            new Trial(due).throwsArgument("whole(" + r + ")", desk -> desk.whole(r));
        }
    }

    private static void notWhole(Due due) {
        double[] numbers = {LEAST, 0x1p-1022, 0x1p-63, 0x1p-64, 0x1p-53, 0.5, 0x1.fffffffffffffp-1,
            0x1.0000000000001p0, 1.5, 0x1.0000000000001p51, 0x1.fffffffffffffp51};
        for (double x : numbers) {
            wholeThrows(due, x);
            wholeThrows(due, -x);
        }
    }

    private static void wholeTooLow(Due due) {
        wholeThrows(due, -0x1.0000000000001p63);
        wholeThrows(due, -0x1p64);
        wholeThrows(due, -0x1p117);
        wholeThrows(due, -GREATEST);
    }

    private static void wholeTooHigh(Due due) {
        wholeThrows(due, 0x1p63);
        wholeThrows(due, 0x1.0000000000001p63);
        wholeThrows(due, 0x1p64);
        wholeThrows(due, 0x1p117);
        wholeThrows(due, GREATEST);
    }

    private static void digits(Due due, double x, long want) {
        new Trial(due, x).answers(want, "digits(0)", desk -> desk.digits(0));
        new Trial(due, Desks.otherSign(x)).answers(-want, "digits(0)", desk -> desk.digits(0));
    }

    private static void exponent(Due due, double x, int want) {
        new Trial(due, x).answers(want, "exponent(0)", desk -> desk.exponent(0));
        new Trial(due, Desks.otherSign(x)).answers(want, "exponent(0)", desk -> desk.exponent(0));
    }

    private static void whole(Due due, double x, long want) {
        new Trial(due, x).answers(want, "whole(0)", desk -> desk.whole(0));
    }

    private static void wholeThrows(Due due, double x) {
        new Trial(due, x).throwsState("whole(0)", desk -> desk.whole(0));
    }
}
