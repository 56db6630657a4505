/** Promise 4: sqrt. */
public final class SqrtTest {
    private static final String PROMISE = "Promise 4";

    private SqrtTest() {
    }

    public static void main(String[] args) {
        Check.sentence(PROMISE, "THE NAN when x is a NAN", SqrtTest::nans);
        Check.sentence(PROMISE, "x itself when x is a zero or the infinity with the SIGN 0", SqrtTest::itself);
        Check.sentence(PROMISE, "THE NAN, and the flag INVALID is set, when x has the SIGN 1 otherwise",
            SqrtTest::negative);
        Check.sentence(PROMISE, "in all other cases the positive square root of x's value, rounded", SqrtTest::rounded);
        Check.sentence(PROMISE, "INEXACT is set when that is not exact.", SqrtTest::inexact);
        Check.sentence(PROMISE, "Answers true", SqrtTest::accepted);
        Check.sentence(PROMISE, "refused with false when a register number is not 0 .. 7.", SqrtTest::refused);
        Check.finish("SqrtTest");
    }

    private static void root(long x, long want, int flags) {
        BinaryFunctions object = Check.with(x, 77);
        Check.due("sqrt of " + x, object.sqrt(1, 0), true);
        Check.due("bits after sqrt of " + x, object.bits(1), want);
        Check.due("flags after sqrt of " + x, object.flags(), flags);
        Check.due("from after sqrt of " + x, object.bits(0), x);
    }

    private static void nans() {
        // Also those with the SIGN 1, which come before the case of INVALID.
        for (long nan : Check.NANS) {
            root(nan, Check.THE_NAN, 0);
        }
    }

    private static void itself() {
        root(0, 0, 0);
        root(Check.MINUS, Check.MINUS, 0);
        root(Check.INFINITY, Check.INFINITY, 0);
    }

    private static void negative() {
        long[] amounts = {1, 2, Check.LEAST_NORMAL - 1, Check.LEAST_NORMAL, Check.of(1), Check.of(4), Check.GREATEST,
            Check.INFINITY};
        for (long amount : amounts) {
            root(Check.MINUS | amount, Check.THE_NAN, Check.INVALID);
        }
    }

    private static void rounded() {
        root(Check.of(2), 4609047870845172685L, Check.INEXACT);
        root(Check.of(3), 4610479282544200874L, Check.INEXACT);
        root(1, Check.powerOfTwo(-537), 0);
        root(2, Check.of(Math.sqrt(Double.MIN_VALUE * 2)), Check.INEXACT);
        root(3, Check.of(Math.sqrt(Double.MIN_VALUE * 3)), Check.INEXACT);
        root(Check.LEAST_NORMAL - 1, Check.powerOfTwo(-511) - 1, Check.INEXACT);
        root(Check.LEAST_NORMAL + 1, Check.powerOfTwo(-511), Check.INEXACT);
        root(Check.GREATEST, 6913025428013711359L, Check.INEXACT);
        // Next to a power of 4 the root lies near the middle between two patterns.
        root(Check.of(1) + 1, Check.of(1), Check.INEXACT);
        root(Check.of(1) + 2, Check.of(1) + 1, Check.INEXACT);
        root(Check.of(1) + 3, Check.of(1) + 1, Check.INEXACT);
        root(Check.of(1) - 1, Check.of(1) - 1, Check.INEXACT);
        root(Check.of(4) - 1, Check.of(2) - 1, Check.INEXACT);
        // The powers of two between those of four, at every E.
        for (int k = -1073; k < 1024; k += 2) {
            root(Check.powerOfTwo(k), Check.of(Math.sqrt(Math.scalb(1.0, k))), Check.INEXACT);
        }
    }

    private static void inexact() {
        for (int i = 1; i < 200; i++) {
            double square = i * (double) i;
            root(Check.of(square), Check.of(i), 0);
            root(Check.of(Math.nextUp(square)), Check.of(Math.sqrt(Math.nextUp(square))), Check.INEXACT);
            root(Check.of(Math.nextDown(square)), Check.of(Math.sqrt(Math.nextDown(square))), Check.INEXACT);
        }
        // The greatest whole number whose square still has no more bits than a significand.
        root(Check.of(94906265.0 * 94906265.0), Check.of(94906265.0), 0);
        for (int k = -537; k < 512; k++) {
            root(Check.powerOfTwo(2 * k), Check.powerOfTwo(k), 0);
        }
        root(9, Check.of(Math.scalb(3.0, -537)), 0);
        root(Check.LEAST_NORMAL, Check.powerOfTwo(-511), 0);
    }

    private static void accepted() {
        for (int i = 0; i < 64; i++) {
            int to = i / 8;
            int from = i % 8;
            Check.accepted("sqrt(" + to + ", " + from + ")", x -> x.sqrt(to, from), to,
                Check.result(Math.sqrt(Check.USED[from])));
        }
    }

    private static void refused() {
        for (int bad : Check.NO_REGISTERS) {
            for (int good = 0; good < 8; good++) {
                int r = good;
                Check.refused("sqrt(" + bad + ", " + r + ")", x -> x.sqrt(bad, r));
                Check.refused("sqrt(" + r + ", " + bad + ")", x -> x.sqrt(r, bad));
            }
        }
    }
}
