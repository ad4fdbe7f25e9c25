/** Promise 3, sentence by sentence: the edges of combine. */
public final class CombineEdgesTest {
    private static final int SUM = 0;
    private static final int DIFFERENCE = 1;
    private static final int PRODUCT = 2;
    private static final int QUOTIENT = 3;
    private static final int REST = 4;
    private static final int LESSER = 5;
    private static final int GREATER = 6;
    private static final int SUM_ERROR = 7;
    private static final int PRODUCT_ERROR = 8;
    private static final int LAST_KIND = 8;

    private static final double LEAST = Samples.LEAST;
    private static final double GREATEST = Samples.GREATEST;
    private static final double ABOVE_1 = 0x1.0000000000001p0;
    private static final double BELOW_1 = 0x1.fffffffffffffp-1;
    /** The half of what lies between the greatest number and 2^1024, and the number below it. */
    private static final double HALF = 0x1p970;
    private static final double BELOW_HALF = 0x1.fffffffffffffp969;

    /** Their exact product is 73218628 * 2^919 below where OVER begins, and above the greatest number. */
    private static final double NOT_OVER_A = 6369051710322797L * 0x1p459;
    private static final double NOT_OVER_B = 6369051634728748L * 0x1p460;
    private static final double NOT_OVER_ERROR = 2251799740466620L * 0x1p919;
    /** Their exact product is below 2^1024, but nearest to it is 2^1024. */
    private static final double OVER_A = 6369051672525773L * 0x1p459;
    private static final double OVER_B = 6369051672525772L * 0x1p460;
    /** Their exact product is half way from the greatest number to 2^1024. */
    private static final double TIE_A = ((1L << 27) - 1) * 0x1p485;
    private static final double TIE_B = ((1L << 27) + 1) * 0x1p485;

    private CombineEdgesTest() {
    }

    public static void main(String[] args) {
        Sentences sentences = new Sentences();
        sentences.section("Promise 3");
        sentences.test("what is nearest to: the sum of two others (kind 0)", CombineEdgesTest::sum);
        sentences.test("their difference (1)", CombineEdgesTest::difference);
        sentences.test("product (2)", CombineEdgesTest::product);
        sentences.test("quotient (3)", CombineEdgesTest::quotient);
        sentences.test("the rest (4): the first, less as often the second as it can be without the sign changing",
            CombineEdgesTest::rest);
        sentences.test("it has the first one's sign, or is 0", CombineEdgesTest::restSign);
        sentences.test("the lesser (5)", CombineEdgesTest::lesser);
        sentences.test("the greater (6)", CombineEdgesTest::greater);
        sentences.test("the exact sum less what is nearest to it (7)", CombineEdgesTest::sumError);
        sentences.test("the exact product less what is nearest to it (8)", CombineEdgesTest::productError);
        sentences.test("OVER (0, 1, 2, 3): kind 0", CombineEdgesTest::overSum);
        sentences.test("OVER (0, 1, 2, 3): kind 1", CombineEdgesTest::overDifference);
        sentences.test("OVER (0, 1, 2, 3): kind 2", CombineEdgesTest::overProduct);
        sentences.test("OVER (0, 1, 2, 3): kind 3", CombineEdgesTest::overQuotient);
        sentences.test("OVER (7 and 8, if the sum or product is): kind 7", CombineEdgesTest::overSumError);
        sentences.test("OVER (7 and 8, if the sum or product is): kind 8", CombineEdgesTest::overProductError);
        sentences.test("ZERO (3 and 4, if the second is 0): kind 3", due -> byZero(due, QUOTIENT));
        sentences.test("ZERO (3 and 4, if the second is 0): kind 4", due -> byZero(due, REST));
        sentences.test("SMALL (8, if the product's exact size is below 2^-960)", CombineEdgesTest::small);
        sentences.test("SMALL (8, if neither is 0)", CombineEdgesTest::smallByZero);
        sentences.test("IllegalArgumentException when there is no such register", CombineEdgesTest::noSuchRegister);
        sentences.test("IllegalArgumentException when there is no such kind", CombineEdgesTest::noSuchKind);
        sentences.test("of two others: both may be one register", CombineEdgesTest::oneRegister);
        sentences.end();
    }

    private static void sum(Due due) {
        eachSign(due, SUM, 1.0, 0x1p-53, 1.0);
        eachSign(due, SUM, ABOVE_1, 0x1p-53, 0x1.0000000000002p0);
        eachSign(due, SUM, 1.0, 0x1.0000000000001p-53, ABOVE_1);
        eachSign(due, SUM, 1.0, -0x1p-54, 1.0);
        eachSign(due, SUM, 1.0, -0x1.0000000000001p-54, BELOW_1);
        eachSign(due, SUM, 0x1.fffffffffffffp52, 0.5, 0x1p53);
        eachSign(due, SUM, 1.0, LEAST, 1.0);
        eachSign(due, SUM, 1.0, -LEAST, 1.0);
        eachSign(due, SUM, LEAST, LEAST, 2 * LEAST);
        eachSign(due, SUM, 0x0.fffffffffffffp-1022, LEAST, 0x1p-1022);
        eachSign(due, SUM, 0x1p-1022, -LEAST, 0x0.fffffffffffffp-1022);
        eachSign(due, SUM, GREATEST, -GREATEST, 0.0);
        eachSign(due, SUM, GREATEST, BELOW_HALF, GREATEST);
        eachSign(due, SUM, 0x1p1023, 0x1.ffffffffffffep1022, GREATEST);
        eachSign(due, SUM, 0.0, LEAST, LEAST);
        eachSign(due, SUM, 0.0, 0.0, 0.0);
    }

    private static void difference(Due due) {
        eachSign(due, DIFFERENCE, 1.0, 3.0, -2.0);
        eachSign(due, DIFFERENCE, 0.0, LEAST, -LEAST);
        eachSign(due, DIFFERENCE, LEAST, 0.0, LEAST);
        eachSign(due, DIFFERENCE, 0.1, 0.1, 0.0);
        eachSign(due, DIFFERENCE, GREATEST, GREATEST, 0.0);
        eachSign(due, DIFFERENCE, 1.0, 0x1p-54, 1.0);
        eachSign(due, DIFFERENCE, 1.0, 0x1.0000000000001p-54, BELOW_1);
        eachSign(due, DIFFERENCE, 0x1p-1022, LEAST, 0x0.fffffffffffffp-1022);
        eachSign(due, DIFFERENCE, GREATEST, -BELOW_HALF, GREATEST);
    }

    private static void product(Due due) {
        eachFactorSign(due, PRODUCT, LEAST, 0.5, 0.0);
        eachFactorSign(due, PRODUCT, LEAST, 0x1.0000000000001p-1, LEAST);
        eachFactorSign(due, PRODUCT, LEAST, 1.5, 2 * LEAST);
        eachFactorSign(due, PRODUCT, 5 * LEAST, 0.5, 2 * LEAST);
        eachFactorSign(due, PRODUCT, LEAST, LEAST, 0.0);
        // 2^64 + 1 in units of 2^-1139, and 3 * 2^58 - 1 in units of 2^-1133: rounded to 53 places
        // first, they would seem to be half way between two numbers.
        eachFactorSign(due, PRODUCT, 274177 * 0x1p-570, 67280421310721L * 0x1p-569, LEAST);
        eachFactorSign(due, PRODUCT, 131 * 0x1p-566, 6600695637062101L * 0x1p-567, LEAST);
        eachFactorSign(due, PRODUCT, ABOVE_1, ABOVE_1, 0x1.0000000000002p0);
        eachFactorSign(due, PRODUCT, ABOVE_1, 0x1.ffffffffffffep-1, 1.0);
        eachFactorSign(due, PRODUCT, BELOW_1, BELOW_1, 0x1.ffffffffffffep-1);
        eachFactorSign(due, PRODUCT, LEAST, GREATEST, 0x1.fffffffffffffp-51);
        eachFactorSign(due, PRODUCT, 0x1p-1022, 0x1p1023, 2.0);
        eachFactorSign(due, PRODUCT, GREATEST, 0.0, 0.0);
        eachFactorSign(due, PRODUCT, 0.0, 0.0, 0.0);
        eachFactorSign(due, PRODUCT, NOT_OVER_A, NOT_OVER_B, GREATEST);
        eachFactorSign(due, PRODUCT, 0x1p511, 0x1p512, 0x1p1023);
    }

    private static void quotient(Due due) {
        eachFactorSign(due, QUOTIENT, LEAST, 2.0, 0.0);
        eachFactorSign(due, QUOTIENT, 3 * LEAST, 2.0, 2 * LEAST);
        eachFactorSign(due, QUOTIENT, 5 * LEAST, 2.0, 2 * LEAST);
        eachFactorSign(due, QUOTIENT, LEAST, 0x1.fffffffffffffp0, LEAST);
        eachFactorSign(due, QUOTIENT, LEAST, 0x1.0000000000001p1, 0.0);
        eachFactorSign(due, QUOTIENT, LEAST, GREATEST, 0.0);
        eachFactorSign(due, QUOTIENT, LEAST, LEAST, 1.0);
        eachFactorSign(due, QUOTIENT, GREATEST, GREATEST, 1.0);
        eachFactorSign(due, QUOTIENT, 0.0, LEAST, 0.0);
        eachFactorSign(due, QUOTIENT, 1.0, 3.0, 0x1.5555555555555p-2);
        eachFactorSign(due, QUOTIENT, 2.0, 3.0, 0x1.5555555555555p-1);
        eachFactorSign(due, QUOTIENT, 1.0, ABOVE_1, 0x1.ffffffffffffep-1);
        eachFactorSign(due, QUOTIENT, 1.0, BELOW_1, ABOVE_1);
        eachFactorSign(due, QUOTIENT, 0x1.ffffffffffffep1023, BELOW_1, GREATEST);
        eachFactorSign(due, QUOTIENT, 0x1.fffffffffffffp-51, LEAST, GREATEST);
    }

    private static void rest(Due due) {
        becomes(due, REST, 7.5, 2.0, 1.5);
        becomes(due, REST, 2.0, 2.0, 0.0);
        becomes(due, REST, 6.0, 2.0, 0.0);
        becomes(due, REST, 0x1.fffffffffffffp0, 2.0, 0x1.fffffffffffffp0);
        becomes(due, REST, 0x1.0000000000001p1, 2.0, 0x1p-51);
        becomes(due, REST, 1.0, 0.1, 0x1.9999999999996p-4);
        becomes(due, REST, GREATEST, LEAST, 0.0);
        becomes(due, REST, GREATEST, 3 * LEAST, 2 * LEAST);
        becomes(due, REST, GREATEST, GREATEST, 0.0);
        becomes(due, REST, 0x1.ffffffffffffep1023, GREATEST, 0x1.ffffffffffffep1023);
        becomes(due, REST, GREATEST, 0x1.ffffffffffffep1023, 0x1p971);
        becomes(due, REST, LEAST, GREATEST, LEAST);
        becomes(due, REST, 0.0, LEAST, 0.0);
        becomes(due, REST, 0x1p-1022, 0x0.fffffffffffffp-1022, LEAST);
    }

    private static void restSign(Due due) {
        double[][] givenAndWant = {{7.5, 2.0, 1.5}, {1.5, 2.0, 1.5}, {6.0, 2.0, 0.0}, {2.0, 2.0, 0.0},
            {GREATEST, 3 * LEAST, 2 * LEAST}, {LEAST, GREATEST, LEAST}, {0.0, 3.0, 0.0}};
        for (double[] row : givenAndWant) {
            double rest = row[2];
            becomes(due, REST, row[0], row[1], rest);
            becomes(due, REST, row[0], -row[1], rest);
            becomes(due, REST, Desks.otherSign(row[0]), row[1], Desks.otherSign(rest));
            becomes(due, REST, Desks.otherSign(row[0]), -row[1], Desks.otherSign(rest));
        }
    }

    private static void lesser(Due due) {
        eitherOrder(due, LESSER, 1.0, ABOVE_1, 1.0);
        eitherOrder(due, LESSER, -1.0, -ABOVE_1, -ABOVE_1);
        eitherOrder(due, LESSER, -LEAST, 0.0, -LEAST);
        eitherOrder(due, LESSER, LEAST, 0.0, 0.0);
        eitherOrder(due, LESSER, GREATEST, -GREATEST, -GREATEST);
        eitherOrder(due, LESSER, GREATEST, 0x1.ffffffffffffep1023, 0x1.ffffffffffffep1023);
        eitherOrder(due, LESSER, LEAST, -1.0, -1.0);
        eitherOrder(due, LESSER, 0.1, 0.1, 0.1);
    }

    private static void greater(Due due) {
        eitherOrder(due, GREATER, 1.0, ABOVE_1, ABOVE_1);
        eitherOrder(due, GREATER, -1.0, -ABOVE_1, -1.0);
        eitherOrder(due, GREATER, -LEAST, 0.0, 0.0);
        eitherOrder(due, GREATER, LEAST, 0.0, LEAST);
        eitherOrder(due, GREATER, GREATEST, -GREATEST, GREATEST);
        eitherOrder(due, GREATER, GREATEST, 0x1.ffffffffffffep1023, GREATEST);
        eitherOrder(due, GREATER, LEAST, -1.0, LEAST);
        eitherOrder(due, GREATER, 0.1, 0.1, 0.1);
    }

    private static void sumError(Due due) {
        eachSign(due, SUM_ERROR, 1.0, 0x1p-53, 0x1p-53);
        eachSign(due, SUM_ERROR, ABOVE_1, 0x1p-53, -0x1p-53);
        eachSign(due, SUM_ERROR, 1.0, 0x1.0000000000001p-53, -0x1.ffffffffffffep-54);
        eachSign(due, SUM_ERROR, 1.0, -0x1p-54, -0x1p-54);
        eachSign(due, SUM_ERROR, 1.0, 1.0, 0.0);
        eachSign(due, SUM_ERROR, 1.0, -1.0, 0.0);
        eachSign(due, SUM_ERROR, 1.0, LEAST, LEAST);
        eachSign(due, SUM_ERROR, LEAST, LEAST, 0.0);
        eachSign(due, SUM_ERROR, 0.0, LEAST, 0.0);
        eachSign(due, SUM_ERROR, GREATEST, LEAST, LEAST);
        eachSign(due, SUM_ERROR, GREATEST, -LEAST, -LEAST);
        eachSign(due, SUM_ERROR, GREATEST, BELOW_HALF, BELOW_HALF);
        eachSign(due, SUM_ERROR, GREATEST, -GREATEST, 0.0);
        eachSign(due, SUM_ERROR, GREATEST, -HALF, HALF);
    }

    private static void productError(Due due) {
        eachFactorSign(due, PRODUCT_ERROR, ABOVE_1, ABOVE_1, 0x1p-104);
        eachFactorSign(due, PRODUCT_ERROR, ABOVE_1, 0x1.ffffffffffffep-1, -0x1p-104);
        eachFactorSign(due, PRODUCT_ERROR, BELOW_1, BELOW_1, 0x1p-106);
        eachFactorSign(due, PRODUCT_ERROR, 3.0, 5.0, 0.0);
        eachFactorSign(due, PRODUCT_ERROR, LEAST, GREATEST, 0.0);
        eachFactorSign(due, PRODUCT_ERROR, 0x1.fffffffffffffp-1022, GREATEST, 0x1p-103);
        eachFactorSign(due, PRODUCT_ERROR, NOT_OVER_A, NOT_OVER_B, NOT_OVER_ERROR);
        eachFactorSign(due, PRODUCT_ERROR, 0x1p511, 0x1p512, 0.0);
        eachFactorSign(due, PRODUCT_ERROR, 0x1.0000000000001p-480, 0x1.0000000000001p-480, 0x1p-1064);
    }

    private static void overSum(Due due) {
        eachSignOver(due, SUM, GREATEST, HALF);
        eachSignOver(due, SUM, GREATEST, GREATEST);
        eachSignOver(due, SUM, 0x1p1023, 0x1p1023);
        eachSignOver(due, SUM, 0x1p1023, 0x1.fffffffffffffp1022);
    }

    private static void overDifference(Due due) {
        eachSignOver(due, DIFFERENCE, GREATEST, -HALF);
        eachSignOver(due, DIFFERENCE, HALF, -GREATEST);
        eachSignOver(due, DIFFERENCE, GREATEST, -GREATEST);
        eachSignOver(due, DIFFERENCE, 0x1p1023, -0x1p1023);
    }

    private static void overProduct(Due due) {
        eachFactorSignOver(due, PRODUCT, 0x1p512, 0x1p512);
        eachFactorSignOver(due, PRODUCT, GREATEST, GREATEST);
        eachFactorSignOver(due, PRODUCT, GREATEST, ABOVE_1);
        eachFactorSignOver(due, PRODUCT, TIE_A, TIE_B);
        eachFactorSignOver(due, PRODUCT, OVER_A, OVER_B);
    }

    private static void overQuotient(Due due) {
        eachFactorSignOver(due, QUOTIENT, GREATEST, BELOW_1);
        eachFactorSignOver(due, QUOTIENT, 0x1p1023, 0.5);
        eachFactorSignOver(due, QUOTIENT, 1.0, LEAST);
        eachFactorSignOver(due, QUOTIENT, GREATEST, LEAST);
        eachFactorSignOver(due, QUOTIENT, 1.0, 0x1p-1024);
    }

    private static void overSumError(Due due) {
        eachSignOver(due, SUM_ERROR, GREATEST, HALF);
        eachSignOver(due, SUM_ERROR, HALF, GREATEST);
        eachSignOver(due, SUM_ERROR, GREATEST, GREATEST);
        eachSignOver(due, SUM_ERROR, 0x1p1023, 0x1p1023);
    }

    private static void overProductError(Due due) {
        eachFactorSignOver(due, PRODUCT_ERROR, 0x1p512, 0x1p512);
        eachFactorSignOver(due, PRODUCT_ERROR, GREATEST, GREATEST);
        eachFactorSignOver(due, PRODUCT_ERROR, TIE_A, TIE_B);
        eachFactorSignOver(due, PRODUCT_ERROR, OVER_A, OVER_B);
    }

    private static void byZero(Due due, int kind) {
        for (double a : new double[] {0.0, 1.0, -1.0, LEAST, -LEAST, GREATEST, -GREATEST}) {
            answers(due, kind, a, 0.0, RealDesk.ZERO);
        }
        becomes(due, kind, 0.0, LEAST, 0.0);
        becomes(due, kind, 0.0, -LEAST, 0.0);
    }

    private static void small(Due due) {
        eachFactorSignSmall(due, 0x1p-480, 0x1.fffffffffffffp-481);
        eachFactorSignSmall(due, LEAST, 0x1p113);
        eachFactorSignSmall(due, LEAST, 0x1.fffffffffffffp113);
        eachFactorSignSmall(due, LEAST, LEAST);
        eachFactorSignSmall(due, 0x1p-480, LEAST);
        // Nearest to this product is 2^-960 itself, but its exact size is 2^-1064 less.
        eachFactorSignSmall(due, 0x1.0000000000001p-480, 0x1.ffffffffffffep-481);
        eachFactorSign(due, PRODUCT_ERROR, 0x1p-480, 0x1p-480, 0.0);
        eachFactorSign(due, PRODUCT_ERROR, 0x1p-480, 0x1.0000000000001p-480, 0.0);
        eachFactorSign(due, PRODUCT_ERROR, LEAST, 0x1p114, 0.0);
        eachFactorSign(due, PRODUCT_ERROR, 0x1p-1022, 0x1p62, 0.0);
    }

    private static void smallByZero(Due due) {
        for (double b : new double[] {0.0, LEAST, -LEAST, 1.0, 0x1p-600, GREATEST, -GREATEST}) {
            eitherOrder(due, PRODUCT_ERROR, 0.0, b, 0.0);
        }
    }

    /** An operand of 0 would be answered by ZERO for 3 and 4: what is refused comes before that. */
    private static void noSuchRegister(Due due) {
        for (int r : Desks.NO_REGISTERS) {
            for (int kind = 0; kind <= LAST_KIND; kind++) {
                throwsArgument(due, r, kind, 0, 1);
                throwsArgument(due, 2, kind, r, 1);
                throwsArgument(due, 2, kind, 0, r);
            }
        }
    }

    private static void noSuchKind(Due due) {
        for (int kind : Desks.NO_KINDS) {
            throwsArgument(due, 2, kind, 0, 1);
            throwsArgument(due, 2, kind, 3, 4);
        }
    }

    private static void oneRegister(Due due) {
        double[] want = {6.0, 0.0, 9.0, 1.0, 0.0, 3.0, 3.0, 0.0, 0.0};
        for (int kind = 0; kind <= LAST_KIND; kind++) {
            for (int to : new int[] {0, 5}) {
                int k = kind;
                new Trial(due, 3.0).becomes(to, want[kind], call(to, kind, 0, 0), desk -> desk.combine(to, k, 0, 0));
            }
        }
    }

    /** The register that becomes it is a third one, the first's own, or the second's own. */
    private static void becomes(Due due, int kind, double a, double b, double want) {
        for (int to = 0; to <= 2; to++) {
            int r = to;
            new Trial(due, a, b).becomes(r, want, call(r, kind, 0, 1), desk -> desk.combine(r, kind, 0, 1));
        }
    }

    private static void answers(Due due, int kind, double a, double b, int answer) {
        for (int to = 0; to <= 2; to++) {
            int r = to;
            new Trial(due, a, b).answers(answer, call(r, kind, 0, 1), desk -> desk.combine(r, kind, 0, 1));
        }
    }

    private static void throwsArgument(Due due, int to, int kind, int a, int b) {
        new Trial(due, 1.0, 0.0).throwsArgument(call(to, kind, a, b), desk -> desk.combine(to, kind, a, b));
    }

    private static void eitherOrder(Due due, int kind, double a, double b, double want) {
        becomes(due, kind, a, b, want);
        becomes(due, kind, b, a, want);
    }

    /** For sums, differences and their errors: both with the other sign give the other sign. */
    private static void eachSign(Due due, int kind, double a, double b, double want) {
        becomes(due, kind, a, b, want);
        becomes(due, kind, Desks.otherSign(a), Desks.otherSign(b), Desks.otherSign(want));
        if (kind != DIFFERENCE) {
            becomes(due, kind, b, a, want);
        }
    }

    private static void eachSignOver(Due due, int kind, double a, double b) {
        answers(due, kind, a, b, RealDesk.OVER);
        answers(due, kind, -a, -b, RealDesk.OVER);
    }

    /** For products, quotients and errors of products: one with the other sign gives the other sign. */
    private static void eachFactorSign(Due due, int kind, double a, double b, double want) {
        double otherA = Desks.otherSign(a);
        double otherB = Desks.otherSign(b);
        becomes(due, kind, a, b, want);
        becomes(due, kind, otherA, b, Desks.otherSign(want));
        becomes(due, kind, a, otherB, Desks.otherSign(want));
        becomes(due, kind, otherA, otherB, want);
        if (kind != QUOTIENT) {
            becomes(due, kind, b, a, want);
        }
    }

    private static void eachFactorSignOver(Due due, int kind, double a, double b) {
        eachFactorSignAnswers(due, kind, a, b, RealDesk.OVER);
    }

    private static void eachFactorSignSmall(Due due, double a, double b) {
        eachFactorSignAnswers(due, PRODUCT_ERROR, a, b, RealDesk.SMALL);
        eachFactorSignAnswers(due, PRODUCT_ERROR, b, a, RealDesk.SMALL);
    }

    private static void eachFactorSignAnswers(Due due, int kind, double a, double b, int answer) {
        answers(due, kind, a, b, answer);
        answers(due, kind, -a, b, answer);
        answers(due, kind, a, -b, answer);
        answers(due, kind, -a, -b, answer);
    }

    private static String call(int to, int kind, int a, int b) {
        return "combine(" + to + ", " + kind + ", " + a + ", " + b + ")";
    }
}
