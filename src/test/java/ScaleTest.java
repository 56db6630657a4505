/** Promise 9: scale. */
public final class ScaleTest {
    private static final String PROMISE = "Promise 9";
    private static final int LOST_BELOW = Check.INEXACT | Check.UNDERFLOW;
    private static final int LOST_ABOVE = Check.INEXACT | Check.OVERFLOW;
    private static final int[] FAR_UP = {2099, 4096, 65536, Integer.MAX_VALUE - 1074, Integer.MAX_VALUE - 1, Integer.MAX_VALUE};
    private static final int[] FAR_DOWN = {-2099, -2100, -2108, -2140, -4096, -65536, Integer.MIN_VALUE + 1074,
        Integer.MIN_VALUE + 1, Integer.MIN_VALUE};

    private ScaleTest() {
    }

    public static void main(String[] args) {
        Check.sentence(PROMISE, "THE NAN when x is a NAN", ScaleTest::nans);
        Check.sentence(PROMISE, "x itself when x is a zero or an infinity", ScaleTest::itself);
        Check.sentence(PROMISE, "in all other cases its value times 2^n, rounded.", ScaleTest::rounded);
        Check.sentence(PROMISE, "INEXACT is set when that is not exact", ScaleTest::inexact);
        Check.sentence(PROMISE, "OVERFLOW too when the result is an infinity", ScaleTest::overflow);
        Check.sentence(PROMISE, "UNDERFLOW too when it is not exact", ScaleTest::underflow);
        Check.sentence(PROMISE, "and the result's amount is less than 2^-1022.", ScaleTest::roundedUpToNormal);
        Check.sentence(PROMISE, "Answers true", ScaleTest::accepted);
        Check.sentence(PROMISE, "refused with false when a register number is not 0 .. 7.", ScaleTest::refused);
        Check.finish("ScaleTest");
    }

    private static void scaled(long x, int n, long want, int flags) {
        BinaryFunctions object = Check.with(x, 77);
        String call = "scale of " + x + " by " + n;
        Check.due(call, object.scale(1, 0, n), true);
        Check.due("bits after " + call, object.bits(1), want);
        Check.due("flags after " + call, object.flags(), flags);
        Check.due("from after " + call, object.bits(0), x);
    }

    private static void bothSigns(long x, int n, long want, int flags) {
        scaled(x, n, want, flags);
        scaled(Check.MINUS | x, n, Check.MINUS | want, flags);
    }

    private static void nans() {
        for (long nan : Check.NANS) {
            for (int n : new int[] {0, 1, -1, 5000, -5000, Integer.MIN_VALUE, Integer.MAX_VALUE}) {
                scaled(nan, n, Check.THE_NAN, 0);
            }
        }
    }

    private static void itself() {
        for (int n : new int[] {0, 1, -1, 5000, -5000, Integer.MIN_VALUE, Integer.MAX_VALUE}) {
            bothSigns(0, n, 0, 0);
            bothSigns(Check.INFINITY, n, Check.INFINITY, 0);
        }
    }

    private static void rounded() {
        for (long amount : new long[] {1, 3, Check.LEAST_NORMAL - 1, Check.LEAST_NORMAL, Check.of(0.1), Check.GREATEST}) {
            bothSigns(amount, 0, amount, 0);
        }
        bothSigns(Check.of(0.1), 3, Check.of(0.8), 0);
        bothSigns(Check.of(12), -2, Check.of(3), 0);
        for (int k = -1074; k < 1024; k++) {
            bothSigns(Check.of(1), k, Check.powerOfTwo(k), 0);
            bothSigns(1, k + 1074, Check.powerOfTwo(k), 0);
            bothSigns(Check.powerOfTwo(k), -k, Check.of(1), 0);
        }
        // n so far from 0 that its sum with the power of x goes beyond an int.
        for (int n : FAR_UP) {
            bothSigns(1, n, Check.INFINITY, LOST_ABOVE);
            bothSigns(Check.LEAST_NORMAL, n, Check.INFINITY, LOST_ABOVE);
            bothSigns(Check.of(1), n, Check.INFINITY, LOST_ABOVE);
            bothSigns(Check.GREATEST, n, Check.INFINITY, LOST_ABOVE);
        }
        for (int n : FAR_DOWN) {
            bothSigns(1, n, 0, LOST_BELOW);
            bothSigns(Check.LEAST_NORMAL, n, 0, LOST_BELOW);
            bothSigns(Check.of(1), n, 0, LOST_BELOW);
            bothSigns(Check.GREATEST, n, 0, LOST_BELOW);
        }
    }

    private static void inexact() {
        // The last step at which nothing is lost yet, and the next one.
        bothSigns(6, -1, 3, 0);
        bothSigns(6, -2, 2, LOST_BELOW);
        bothSigns(Check.of(1), -1074, 1, 0);
        bothSigns(Check.of(1), -1075, 0, LOST_BELOW);
        bothSigns(Check.of(1) + 1, -1022, Check.LEAST_NORMAL + 1, 0);
        bothSigns(Check.of(1) + 1, -1023, Check.LEAST_NORMAL / 2, LOST_BELOW);
        bothSigns(Check.of(1) + 2, -1023, Check.LEAST_NORMAL / 2 + 1, 0);
        bothSigns(Check.GREATEST, -2045, 2 * Check.LEAST_NORMAL - 1, 0);
        bothSigns(Check.GREATEST, -2046, Check.LEAST_NORMAL, Check.INEXACT);
        bothSigns(Check.LEAST_NORMAL - 1, 1, 2 * Check.LEAST_NORMAL - 2, 0);
        bothSigns(2 * Check.LEAST_NORMAL - 2, -1, Check.LEAST_NORMAL - 1, 0);
        bothSigns(2 * Check.LEAST_NORMAL - 1, 2045, Check.GREATEST, 0);
    }

    private static void overflow() {
        bothSigns(Check.of(1), 1023, Check.powerOfTwo(1023), 0);
        bothSigns(Check.of(1), 1024, Check.INFINITY, LOST_ABOVE);
        bothSigns(Check.of(2) - 1, 1023, Check.GREATEST, 0);
        bothSigns(Check.of(2) - 1, 1024, Check.INFINITY, LOST_ABOVE);
        bothSigns(Check.GREATEST, 1, Check.INFINITY, LOST_ABOVE);
        bothSigns(1, 2097, Check.powerOfTwo(1023), 0);
        bothSigns(1, 2098, Check.INFINITY, LOST_ABOVE);
        bothSigns(Check.LEAST_NORMAL - 1, 2046, Check.GREATEST - 1, 0);
        bothSigns(Check.LEAST_NORMAL - 1, 2047, Check.INFINITY, LOST_ABOVE);
        bothSigns(Check.LEAST_NORMAL, 2045, Check.powerOfTwo(1023), 0);
        bothSigns(Check.LEAST_NORMAL, 2046, Check.INFINITY, LOST_ABOVE);
    }

    private static void underflow() {
        // Amounts below 2^-1022 that are exact set no flag at all.
        bothSigns(Check.LEAST_NORMAL, -1, Check.LEAST_NORMAL / 2, 0);
        bothSigns(Check.LEAST_NORMAL, -52, 1, 0);
        bothSigns(Check.LEAST_NORMAL, -53, 0, LOST_BELOW);
        bothSigns(1, -1, 0, LOST_BELOW);
        bothSigns(2, -1, 1, 0);
        bothSigns(2, -2, 0, LOST_BELOW);
        bothSigns(3, -1, 2, LOST_BELOW);
        bothSigns(3, -2, 1, LOST_BELOW);
        bothSigns(3, -3, 0, LOST_BELOW);
        bothSigns(5, -1, 2, LOST_BELOW);
        bothSigns(7, -1, 4, LOST_BELOW);
        bothSigns(Check.of(1) + 1, -1074, 1, LOST_BELOW);
        bothSigns(Check.of(1) + 1, -1075, 1, LOST_BELOW);
        bothSigns(Check.of(1) + 1, -1076, 0, LOST_BELOW);
        bothSigns(Check.of(2) - 1, -1076, 0, LOST_BELOW);
        bothSigns(Check.of(1.5), -1074, 2, LOST_BELOW);
        bothSigns(Check.of(2.5), -1074, 2, LOST_BELOW);
        bothSigns(Check.of(0.1), -1070, 2, LOST_BELOW);
        bothSigns(Check.LEAST_NORMAL + 1, -1, Check.LEAST_NORMAL / 2, LOST_BELOW);
        bothSigns(Check.LEAST_NORMAL + 3, -1, Check.LEAST_NORMAL / 2 + 2, LOST_BELOW);
        bothSigns(Check.GREATEST, -2098, 1, LOST_BELOW);
    }

    private static void roundedUpToNormal() {
        // The result's amount is 2^-1022, which is not less than 2^-1022: no UNDERFLOW.
        bothSigns(2 * Check.LEAST_NORMAL - 1, -1, Check.LEAST_NORMAL, Check.INEXACT);
        bothSigns(Check.of(1) - 1, -1022, Check.LEAST_NORMAL, Check.INEXACT);
        bothSigns(Check.of(4) - 1, -1024, Check.LEAST_NORMAL, Check.INEXACT);
        bothSigns(Check.of(1) - 2, -1022, Check.LEAST_NORMAL - 1, 0);
        bothSigns(Check.of(1) - 3, -1022, Check.LEAST_NORMAL - 2, LOST_BELOW);
        bothSigns(Check.of(1), -1022, Check.LEAST_NORMAL, 0);
    }

    private static void accepted() {
        for (int i = 0; i < 64; i++) {
            int to = i / 8;
            int from = i % 8;
            for (int n : new int[] {0, 3, -3, 1100, -1100, Integer.MIN_VALUE, Integer.MAX_VALUE}) {
                String call = "scale(" + to + ", " + from + ", " + n + ")";
                Check.accepted(call, x -> x.scale(to, from, n), to, Check.of(Math.scalb(Check.USED[from], n)));
            }
        }
    }

    private static void refused() {
        for (int bad : Check.NO_REGISTERS) {
            for (int good = 0; good < 8; good++) {
                int r = good;
                for (int n : new int[] {0, 3, 2200, -2200}) {
                    Check.refused("scale(" + bad + ", " + r + ", " + n + ")", x -> x.scale(bad, r, n));
                    Check.refused("scale(" + r + ", " + bad + ", " + n + ")", x -> x.scale(r, bad, n));
                }
            }
        }
    }
}
