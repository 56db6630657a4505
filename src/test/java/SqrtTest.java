/** Promise 4: sqrt. */
public final class SqrtTest {
    private SqrtTest() {
    }

    private static void root(long x, long want, int flags) {
        BinaryFunctions object = Check.with(x, 77);
        Check.due("sqrt of " + x, object.sqrt(1, 0), true);
        Check.due("bits after sqrt of " + x, object.bits(1), want);
        Check.due("flags after sqrt of " + x, object.flags(), flags);
        Check.due("from after sqrt of " + x, object.bits(0), x);
    }

    public static void main(String[] args) {
        specialPatterns();
        exactRoots();
        inexactRoots();
        Check.finish("SqrtTest");
    }

    private static void specialPatterns() {
        for (long nan : Check.NANS) {
            root(nan, Check.THE_NAN, 0);
        }
        root(0, 0, 0);
        root(Check.MINUS, Check.MINUS, 0);
        root(Check.INFINITY, Check.INFINITY, 0);
        root(Check.MINUS | Check.INFINITY, Check.THE_NAN, Check.INVALID);
        root(Check.of(-1), Check.THE_NAN, Check.INVALID);
        root(Check.MINUS | 1, Check.THE_NAN, Check.INVALID);
        root(Check.MINUS | Check.GREATEST, Check.THE_NAN, Check.INVALID);
    }

    private static void exactRoots() {
        for (int i = 1; i < 200; i++) {
            root(Check.of(i * (double) i), Check.of(i), 0);
        }
        // The widest root whose square is still a pattern has 26 bits and some.
        root(Check.of(94906265.0 * 94906265.0), Check.of(94906265.0), 0);
        for (int k = -537; k < 512; k++) {
            root(Check.of(Math.scalb(1.0, 2 * k)), Check.of(Math.scalb(1.0, k)), 0);
        }
        root(9, Check.of(Math.scalb(3.0, -537)), 0);
        root(Check.LEAST_NORMAL, Check.of(Math.scalb(1.0, -511)), 0);
    }

    private static void inexactRoots() {
        root(Check.of(2), 4609047870845172685L, Check.INEXACT);
        root(Check.of(3), 4610479282544200874L, Check.INEXACT);
        root(2, Check.of(Math.sqrt(Double.MIN_VALUE * 2)), Check.INEXACT);
        root(3, Check.of(Math.sqrt(Double.MIN_VALUE * 3)), Check.INEXACT);
        root(Check.LEAST_NORMAL - 1, Check.of(Math.scalb(1.0, -511)) - 1, Check.INEXACT);
        root(Check.GREATEST, 6913025428013711359L, Check.INEXACT);
        // Next to a power of 4 the root lies near the middle between two patterns.
        root(Check.of(1) + 1, Check.of(1), Check.INEXACT);
        root(Check.of(1) + 2, Check.of(1) + 1, Check.INEXACT);
        root(Check.of(1) + 3, Check.of(1) + 1, Check.INEXACT);
        root(Check.of(1) - 1, Check.of(1) - 1, Check.INEXACT);
        root(Check.of(4) - 1, Check.of(2) - 1, Check.INEXACT);
    }
}
