/** Promises 10 (exponent), 11 (compare) and 12 (sort). */
public final class ReadingTest {
    private static final String EXPONENT = "Promise 10";
    private static final String COMPARE = "Promise 11";
    private static final String SORT = "Promise 12";

    /** From the least to the greatest. */
    private static final long[] RISING = {
        Check.MINUS_INFINITY, Check.MINUS | Check.GREATEST, Check.of(-2), Check.of(-1) + 1, Check.of(-1),
        Check.MINUS | Check.LEAST_NORMAL, Check.MINUS | (Check.LEAST_NORMAL - 1), Check.MINUS | 2, Check.MINUS | 1, 0, 1, 2,
        Check.LEAST_NORMAL - 1, Check.LEAST_NORMAL, Check.of(1), Check.of(1) + 1, Check.of(2), Check.GREATEST, Check.INFINITY
    };

    private ReadingTest() {
    }

    public static void main(String[] args) {
        Check.sentence(EXPONENT, "The greatest whole number k such that 2^k is not greater than the amount",
            ReadingTest::exponents);
        Check.sentence(EXPONENT, "-2147483648 for a zero", ReadingTest::exponentOfZero);
        Check.sentence(EXPONENT, "2147483647 for an infinity or a NAN", ReadingTest::exponentBeyond);
        Check.sentence(EXPONENT, "and 0 when r is not 0 .. 7.", ReadingTest::exponentOfNoRegister);
        Check.sentence(COMPARE, "-1, 0 or 1 when the pattern in register a has a value less than, the same as, or greater than",
            ReadingTest::comparisons);
        Check.sentence(COMPARE, "infinities lie beyond all values on their side", ReadingTest::compareInfinities);
        Check.sentence(COMPARE, "and each is the same as itself", ReadingTest::compareSameInfinity);
        Check.sentence(COMPARE, "2 when one of them is a NAN", ReadingTest::compareNans);
        Check.sentence(COMPARE, "or a register number is not 0 .. 7.", ReadingTest::compareNoRegister);
        Check.sentence(SORT, "0 a zero, 1 SMALL, 2 NORMAL, 3 an infinity, 4 a NAN", ReadingTest::sorts);
        Check.sentence(SORT, "and 8 more when its SIGN is 1", ReadingTest::negativeSorts);
        Check.sentence(SORT, "-1 when r is not 0 .. 7.", ReadingTest::sortOfNoRegister);
        Check.sentence("Not promised", "Nothing is promised beyond the answers and state changes described above",
            ReadingTest::readingChangesNothing);
        Check.finish("ReadingTest");
    }

    private static void exponent(long amount, int want) {
        BinaryFunctions x = Check.with(amount, Check.MINUS | amount);
        Check.due("exponent of " + amount, x.exponent(0), want);
        Check.due("exponent of the negative " + amount, x.exponent(1), want);
    }

    private static void exponents() {
        for (int k = -1074; k < 1024; k++) {
            long power = Check.powerOfTwo(k);
            exponent(power, k);
            if (k > -1074) {
                exponent(power - 1, k - 1);
            }
            if (k > -1073) {
                exponent(power + 1, k);
            }
        }
        exponent(3, -1073);
        exponent(Check.GREATEST, 1023);
        exponent(Check.of(1), 0);
        exponent(Check.of(10), 3);
        exponent(Check.of(0.1), -4);
    }

    private static void exponentOfZero() {
        exponent(0, -2147483648);
        exponent(1, -1074);
    }

    private static void exponentBeyond() {
        exponent(Check.INFINITY, 2147483647);
        for (long nan : Check.NANS) {
            Check.due("exponent of the NAN " + nan, Check.with(nan, 0).exponent(0), 2147483647);
        }
    }

    private static void exponentOfNoRegister() {
        for (int bad : Check.NO_REGISTERS) {
            Check.due("exponent(" + bad + ")", Check.used().exponent(bad), 0);
            // In a new object a register would answer -2147483648.
            Check.due("exponent(" + bad + ") of a new object", new BinaryFunctions().exponent(bad), 0);
        }
        int[] wants = {2, 1, 1, 996, 0, 0, -4, 2};
        for (int r = 0; r < 8; r++) {
            Check.due("exponent(" + r + ")", Check.used().exponent(r), wants[r]);
        }
    }

    private static void compare(long first, long second, int want) {
        BinaryFunctions x = Check.with(first, second);
        Check.due("compare " + first + " with " + second, x.compare(0, 1), want);
    }

    private static void comparisons() {
        for (int i = 0; i < RISING.length; i++) {
            for (int k = 0; k < RISING.length; k++) {
                compare(RISING[i], RISING[k], Integer.compare(i, k));
            }
        }
        compare(0, Check.MINUS, 0);
        compare(Check.MINUS, 0, 0);
        compare(Check.MINUS, Check.MINUS, 0);
        compare(Check.MINUS, 1, -1);
        compare(1, Check.MINUS, 1);
        compare(0, Check.MINUS | 1, 1);
        compare(Check.MINUS, Check.MINUS | 1, 1);
        compare(Check.MINUS | 1, Check.MINUS, -1);
        // The same pattern in every pair of registers, the same register too.
        for (int a = 0; a < 8; a++) {
            for (int b = 0; b < 8; b++) {
                int want = Double.compare(Check.USED[a], Check.USED[b]);
                Check.due("compare(" + a + ", " + b + ")", Check.used().compare(a, b), want);
            }
        }
    }

    private static void compareInfinities() {
        for (long number : Check.NUMBERS) {
            if (number != Check.INFINITY) {
                compare(number, Check.INFINITY, -1);
                compare(Check.INFINITY, number, 1);
            }
            if (number != Check.MINUS_INFINITY) {
                compare(Check.MINUS_INFINITY, number, -1);
                compare(number, Check.MINUS_INFINITY, 1);
            }
        }
    }

    private static void compareSameInfinity() {
        compare(Check.INFINITY, Check.INFINITY, 0);
        compare(Check.MINUS_INFINITY, Check.MINUS_INFINITY, 0);
    }

    private static void compareNans() {
        for (long nan : Check.NANS) {
            for (long number : Check.NUMBERS) {
                compare(nan, number, 2);
                compare(number, nan, 2);
            }
            for (long other : Check.NANS) {
                compare(nan, other, 2);
            }
            Check.due("compare a register that has the NAN " + nan + " with itself", Check.with(nan, 0).compare(0, 0), 2);
        }
    }

    private static void compareNoRegister() {
        for (int bad : Check.NO_REGISTERS) {
            for (int r = 0; r < 8; r++) {
                Check.due("compare(" + bad + ", " + r + ")", Check.used().compare(bad, r), 2);
                Check.due("compare(" + r + ", " + bad + ")", Check.used().compare(r, bad), 2);
            }
            Check.due("compare(" + bad + ", " + bad + ")", Check.used().compare(bad, bad), 2);
        }
    }

    private static void sort(long x, int want) {
        Check.due("sort of " + x, Check.with(x, 0).sort(0), want);
    }

    private static void sorts() {
        sort(0, 0);
        sort(1, 1);
        sort(Check.LEAST_NORMAL - 1, 1);
        sort(Check.LEAST_NORMAL, 2);
        sort(Check.of(1), 2);
        sort(Check.GREATEST, 2);
        sort(Check.INFINITY, 3);
        sort(Check.INFINITY + 1, 4);
        sort(Check.THE_NAN, 4);
        sort(Long.MAX_VALUE, 4);
    }

    private static void negativeSorts() {
        sort(Check.MINUS, 8);
        sort(Check.MINUS | 1, 9);
        sort(Check.MINUS | (Check.LEAST_NORMAL - 1), 9);
        sort(Check.MINUS | Check.LEAST_NORMAL, 10);
        sort(Check.of(-1), 10);
        sort(Check.MINUS | Check.GREATEST, 10);
        sort(Check.MINUS_INFINITY, 11);
        sort(Check.MINUS_INFINITY + 1, 12);
        sort(Check.MINUS | Check.THE_NAN, 12);
        sort(-1, 12);
    }

    private static void sortOfNoRegister() {
        for (int bad : Check.NO_REGISTERS) {
            Check.due("sort(" + bad + ")", Check.used().sort(bad), -1);
            Check.due("sort(" + bad + ") of a new object", new BinaryFunctions().sort(bad), -1);
        }
        for (int r = 0; r < 8; r++) {
            Check.due("sort(" + r + ")", Check.used().sort(r), Check.USED[r] < 0 ? 10 : 2);
        }
    }

    private static void readingChangesNothing() {
        BinaryFunctions x = Check.used();
        x.load(2, -1);
        x.load(3, Check.MINUS);
        x.clear();
        String before = Check.state(x);
        for (int r = -1; r < 9; r++) {
            x.exponent(r);
            x.sort(r);
            x.compare(r, 2);
            x.compare(0, r);
        }
        Check.due("after reading", Check.state(x), before);
    }
}
