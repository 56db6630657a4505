/** Promises 10 (exponent), 11 (compare) and 12 (sort). */
public final class ReadingTest {
    private ReadingTest() {
    }

    public static void main(String[] args) {
        exponents();
        comparisons();
        sorts();
        readingChangesNothing();
        Check.finish("ReadingTest");
    }

    private static void exponent(long amount, int want) {
        BinaryFunctions x = Check.with(amount, Check.MINUS | amount);
        Check.due("exponent of " + amount, x.exponent(0), want);
        Check.due("exponent of the negative " + amount, x.exponent(1), want);
    }

    private static void exponents() {
        exponent(0, Integer.MIN_VALUE);
        exponent(Check.INFINITY, Integer.MAX_VALUE);
        for (long nan : Check.NANS) {
            Check.due("exponent of a NAN", Check.with(nan, 0).exponent(0), Integer.MAX_VALUE);
        }
        for (int k = -1074; k < 1024; k++) {
            long power = Check.of(Math.scalb(1.0, k));
            exponent(power, k);
            if (k > -1074) {
                exponent(power - 1, k - 1);
            }
        }
        exponent(3, -1073);
        exponent(Check.GREATEST, 1023);
        exponent(Check.of(10), 3);
        exponent(Check.of(0.1), -4);
    }

    private static void comparisons() {
        long[] rising = {
            Check.MINUS | Check.INFINITY, Check.MINUS | Check.GREATEST, Check.of(-2), Check.of(-1) + 1, Check.of(-1), Check.MINUS | Check.LEAST_NORMAL,
            Check.MINUS | 2, Check.MINUS | 1, 0, 1, 2, Check.LEAST_NORMAL - 1, Check.LEAST_NORMAL, Check.of(1), Check.of(1) + 1,
            Check.of(2), Check.GREATEST, Check.INFINITY
        };
        for (int i = 0; i < rising.length; i++) {
            for (int k = 0; k < rising.length; k++) {
                int want = i < k ? -1 : i > k ? 1 : 0;
                Check.due("compare " + rising[i] + " with " + rising[k], Check.with(rising[i], rising[k]).compare(0, 1), want);
                Check.due("compare the other way", Check.with(rising[i], rising[k]).compare(1, 0), -want);
            }
            for (long nan : Check.NANS) {
                Check.due("compare with a NAN", Check.with(rising[i], nan).compare(0, 1), 2);
                Check.due("compare a NAN", Check.with(rising[i], nan).compare(1, 0), 2);
                Check.due("compare a NAN with itself", Check.with(rising[i], nan).compare(1, 1), 2);
            }
        }
        Check.due("compare the zeros", Check.with(0, Check.MINUS).compare(0, 1), 0);
        Check.due("compare the zeros the other way", Check.with(0, Check.MINUS).compare(1, 0), 0);
        Check.due("compare the negative zero with a small one", Check.with(Check.MINUS, 1).compare(0, 1), -1);
        Check.due("compare zero with a small negative one", Check.with(0, Check.MINUS | 1).compare(0, 1), 1);
    }

    private static void sort(long amount, int want) {
        BinaryFunctions x = Check.with(amount, Check.MINUS | amount);
        Check.due("sort of " + amount, x.sort(0), want);
        Check.due("sort of the negative " + amount, x.sort(1), want + 8);
    }

    private static void sorts() {
        sort(0, 0);
        sort(1, 1);
        sort(Check.LEAST_NORMAL - 1, 1);
        sort(Check.LEAST_NORMAL, 2);
        sort(Check.of(1), 2);
        sort(Check.GREATEST, 2);
        sort(Check.INFINITY, 3);
        sort(Check.INFINITY + 1, 4);
        sort(Check.THE_NAN, 4);
        sort(Long.MAX_VALUE, 4);
    }

    private static void readingChangesNothing() {
        BinaryFunctions x = Check.with(Check.of(17), Check.of(3));
        x.load(2, -1);
        x.left(3, 0, 1, false);
        x.sqrt(4, 0);
        String before = Check.state(x);
        for (int r = -1; r < 9; r++) {
            x.exponent(r);
            x.sort(r);
            x.compare(r, 2);
            x.compare(0, r);
        }
        Check.due("after reading", Check.state(x), before);
    }
}
