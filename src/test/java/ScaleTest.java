/** Promise 9: scale. */
public final class ScaleTest {
    private static final int LOST_BELOW = Check.INEXACT | Check.UNDERFLOW;
    private static final int LOST_ABOVE = Check.INEXACT | Check.OVERFLOW;

    private ScaleTest() {
    }

    private static void scaled(long x, int n, long want, int flags) {
        BinaryFunctions object = Check.with(x, 77);
        String call = "scale of " + x + " by " + n;
        Check.due(call, object.scale(1, 0, n), true);
        Check.due("bits after " + call, object.bits(1), want);
        Check.due("flags after " + call, object.flags(), flags);
    }

    private static void bothSigns(long x, int n, long want, int flags) {
        scaled(x, n, want, flags);
        scaled(Check.MINUS | x, n, Check.MINUS | want, flags);
    }

    public static void main(String[] args) {
        specialPatterns();
        exact();
        tooGreat();
        tooSmall();
        roundedUpToNormal();
        Check.finish("ScaleTest");
    }

    private static void specialPatterns() {
        for (int n : new int[] {0, 1, -1, 5000, -5000, Integer.MIN_VALUE, Integer.MAX_VALUE}) {
            for (long nan : Check.NANS) {
                scaled(nan, n, Check.THE_NAN, 0);
            }
            bothSigns(0, n, 0, 0);
            bothSigns(Check.INFINITY, n, Check.INFINITY, 0);
        }
    }

    private static void exact() {
        for (int k = -1074; k < 1024; k++) {
            bothSigns(Check.of(1), k, Check.of(Math.scalb(1.0, k)), 0);
            bothSigns(1, k + 1074, Check.of(Math.scalb(1.0, k)), 0);
            bothSigns(Check.of(Math.scalb(1.0, k)), -k, Check.of(1), 0);
        }
        bothSigns(Check.of(0.1), 0, Check.of(0.1), 0);
        bothSigns(Check.of(0.1), 3, Check.of(0.8), 0);
        bothSigns(5, 1, 10, 0);
        bothSigns(10, -1, 5, 0);
        bothSigns(Check.LEAST_NORMAL - 1, 1, 2 * Check.LEAST_NORMAL - 2, 0);
        bothSigns(2 * Check.LEAST_NORMAL - 2, -1, Check.LEAST_NORMAL - 1, 0);
        bothSigns(Check.GREATEST, -2045, 2 * Check.LEAST_NORMAL - 1, 0);
        bothSigns(2 * Check.LEAST_NORMAL - 1, 2045, Check.GREATEST, 0);
    }

    private static void tooGreat() {
        bothSigns(Check.GREATEST, 1, Check.INFINITY, LOST_ABOVE);
        bothSigns(Check.of(1), 1023, Check.of(Math.scalb(1.0, 1023)), 0);
        bothSigns(Check.of(1), 1024, Check.INFINITY, LOST_ABOVE);
        bothSigns(Check.of(2) - 1, 1023, Check.GREATEST, 0);
        bothSigns(1, 2097, Check.of(Math.scalb(1.0, 1023)), 0);
        bothSigns(1, 2098, Check.INFINITY, LOST_ABOVE);
        bothSigns(Check.LEAST_NORMAL - 1, 2047, Check.INFINITY, LOST_ABOVE);
        for (int n : new int[] {2098, 4096, 65536, Integer.MAX_VALUE - 1, Integer.MAX_VALUE}) {
            bothSigns(1, n, Check.INFINITY, LOST_ABOVE);
            bothSigns(Check.of(1), n, Check.INFINITY, LOST_ABOVE);
            bothSigns(Check.GREATEST, n, Check.INFINITY, LOST_ABOVE);
        }
    }

    private static void tooSmall() {
        long one = Check.of(1);
        bothSigns(1, -1, 0, LOST_BELOW);
        bothSigns(3, -1, 2, LOST_BELOW);
        bothSigns(5, -1, 2, LOST_BELOW);
        bothSigns(7, -1, 4, LOST_BELOW);
        bothSigns(3, -2, 1, LOST_BELOW);
        bothSigns(2, -2, 0, LOST_BELOW);
        bothSigns(3, -3, 0, LOST_BELOW);
        bothSigns(one, -1074, 1, 0);
        bothSigns(one, -1075, 0, LOST_BELOW);
        bothSigns(one + 1, -1074, 1, LOST_BELOW);
        bothSigns(one + 1, -1075, 1, LOST_BELOW);
        bothSigns(one + 1, -1076, 0, LOST_BELOW);
        bothSigns(Check.of(2) - 1, -1076, 0, LOST_BELOW);
        bothSigns(Check.of(1.5), -1074, 2, LOST_BELOW);
        bothSigns(Check.of(2.5), -1074, 2, LOST_BELOW);
        bothSigns(Check.of(0.1), -1070, 2, LOST_BELOW);
        bothSigns(Check.LEAST_NORMAL + 1, -1, Check.LEAST_NORMAL / 2, LOST_BELOW);
        bothSigns(Check.LEAST_NORMAL + 3, -1, Check.LEAST_NORMAL / 2 + 2, LOST_BELOW);
        for (int n : new int[] {-2099, -2100, -2108, -2140, -4096, -65536, Integer.MIN_VALUE + 1, Integer.MIN_VALUE}) {
            bothSigns(1, n, 0, LOST_BELOW);
            bothSigns(one, n, 0, LOST_BELOW);
            bothSigns(Check.GREATEST, n, 0, LOST_BELOW);
        }
        bothSigns(Check.GREATEST, -2098, 1, LOST_BELOW);
    }

    private static void roundedUpToNormal() {
        // The result's amount is 2^-1022, which is not less than 2^-1022: no UNDERFLOW.
        bothSigns(2 * Check.LEAST_NORMAL - 1, -1, Check.LEAST_NORMAL, Check.INEXACT);
        bothSigns(Check.of(1) - 1, -1022, Check.LEAST_NORMAL, Check.INEXACT);
        bothSigns(Check.of(1) - 2, -1022, Check.LEAST_NORMAL - 1, 0);
        bothSigns(Check.of(1) - 3, -1022, Check.LEAST_NORMAL - 2, LOST_BELOW);
    }
}
