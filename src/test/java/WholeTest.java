/** Promise 5: whole. */
public final class WholeTest {
    private static final double HALFWAY_BELOW_2_52 = 4503599627370495.5;

    private WholeTest() {
    }

    private static void made(long x, int how, long want, int flags) {
        BinaryFunctions object = Check.with(x, 77);
        String call = "whole of " + x + " how " + how;
        Check.due(call, object.whole(1, 0, how), true);
        Check.due("bits after " + call, object.bits(1), want);
        Check.due("flags after " + call, object.flags(), flags);
    }

    /** All four ways, for a value that is not whole. */
    private static void broken(double value, double nearest, double down, double up, double towardsZero) {
        long x = Check.of(value);
        made(x, 0, Check.of(nearest), Check.INEXACT);
        made(x, 1, Check.of(down), 0);
        made(x, 2, Check.of(up), 0);
        made(x, 3, Check.of(towardsZero), 0);
    }

    private static void unchanged(long x) {
        for (int how = 0; how < 4; how++) {
            made(x, how, x, 0);
        }
    }

    public static void main(String[] args) {
        specialPatterns();
        wholeAlready();
        brokenValues();
        Check.finish("WholeTest");
    }

    private static void specialPatterns() {
        for (long nan : Check.NANS) {
            for (int how = 0; how < 4; how++) {
                made(nan, how, Check.THE_NAN, 0);
            }
        }
        for (long sign : new long[] {0, Check.MINUS}) {
            unchanged(sign);
            unchanged(sign | Check.INFINITY);
        }
    }

    private static void wholeAlready() {
        double[] values = {1, 2, 3, 7, 8, 1e15, 4503599627370495.0, 4503599627370496.0, 9007199254740991.0, 9007199254740992.0, 1e300, Double.MAX_VALUE};
        for (double value : values) {
            unchanged(Check.of(value));
            unchanged(Check.of(-value));
        }
    }

    private static void brokenValues() {
        broken(2.5, 2, 2, 3, 2);
        broken(-2.5, -2, -3, -2, -2);
        broken(3.5, 4, 3, 4, 3);
        broken(-3.5, -4, -4, -3, -3);
        broken(0.5, 0, 0, 1, 0);
        broken(-0.5, -0.0, -1, -0.0, -0.0);
        broken(1.5, 2, 1, 2, 1);
        broken(0.75, 1, 0, 1, 0);
        broken(-0.75, -1, -1, -0.0, -0.0);
        broken(0.25, 0, 0, 1, 0);
        broken(-0.25, -0.0, -1, -0.0, -0.0);
        broken(Math.nextUp(0.5), 1, 0, 1, 0);
        broken(Math.nextDown(0.5), 0, 0, 1, 0);
        broken(Math.nextUp(2.5), 3, 2, 3, 2);
        broken(Math.nextDown(2.5), 2, 2, 3, 2);
        broken(Math.nextDown(1.0), 1, 0, 1, 0);
        broken(Math.nextUp(-1.0), -1, -1, -0.0, -0.0);
        broken(Math.nextUp(1.0), 1, 1, 2, 1);
        broken(HALFWAY_BELOW_2_52, 4503599627370496.0, 4503599627370495.0, 4503599627370496.0, 4503599627370495.0);
        broken(-HALFWAY_BELOW_2_52, -4503599627370496.0, -4503599627370496.0, -4503599627370495.0, -4503599627370495.0);
        broken(HALFWAY_BELOW_2_52 - 1, 4503599627370494.0, 4503599627370494.0, 4503599627370495.0, 4503599627370494.0);
        // Every power of two below a half, so that the shift runs through all its widths.
        for (int k = 2; k <= 1074; k++) {
            double value = Math.scalb(1.0, -k);
            broken(value, 0, 0, 1, 0);
            broken(-value, -0.0, -1, -0.0, -0.0);
            broken(Math.nextUp(value), 0, 0, 1, 0);
        }
        broken(Math.nextDown(Double.MIN_NORMAL), 0, 0, 1, 0);
    }
}
