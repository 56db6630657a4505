import java.math.BigInteger;

/** Promise 6: left. */
public final class LeftTest {
    private static final String PROMISE = "Promise 6";
    private static final double MINUS_ZERO = -0.0;

    private LeftTest() {
    }

    public static void main(String[] args) {
        Check.sentence(PROMISE, "THE NAN when one of them is a NAN", LeftTest::nans);
        Check.sentence(PROMISE, "THE NAN, and INVALID is set, when otherwise x is an infinity or y is a zero",
            LeftTest::invalid);
        Check.sentence(PROMISE, "x itself when otherwise y is an infinity or x is a zero", LeftTest::itself);
        Check.sentence(PROMISE, "when near is false by leaving out what is behind the point", LeftTest::cutOff);
        Check.sentence(PROMISE, "when near is true to the nearest whole number", LeftTest::toNearest);
        Check.sentence(PROMISE, "of two equally near the even one", LeftTest::equallyNear);
        Check.sentence(PROMISE, "the result is the pattern with the value x - n * y (it always has one)",
            LeftTest::alwaysOne);
        Check.sentence(PROMISE, "when that value is 0, the zero with the SIGN of x", LeftTest::zeros);
        Check.sentence(PROMISE, "The quotient becomes the remainder of the amount of n by 8", LeftTest::quotient);
        Check.sentence(PROMISE, "or 0 in the cases without n.", LeftTest::quotientWithoutN);
        Check.sentence(PROMISE, "Answers true", LeftTest::accepted);
        Check.sentence(PROMISE, "refused with false when a register number is not 0 .. 7.", LeftTest::refused);
        Check.finish("LeftTest");
    }

    private static void left(long x, long y, boolean near, long want, int quotient, int flags) {
        BinaryFunctions object = Check.with(x, y);
        // A quotient other than 0, so that the cases without n must set it.
        object.load(3, Check.of(5));
        object.load(4, Check.of(1));
        object.left(2, 3, 4, false);
        String call = "left of " + x + " by " + y + (near ? " near" : "");
        Check.due("quotient before " + call, object.quotient(), 5);
        Check.due(call, object.left(2, 0, 1, near), true);
        Check.due("bits after " + call, object.bits(2), want);
        Check.due("quotient after " + call, object.quotient(), quotient);
        Check.due("flags after " + call, object.flags(), flags);
        Check.due("x after " + call, object.bits(0), x);
        Check.due("y after " + call, object.bits(1), y);
    }

    private static void without(long x, long y, long want, int flags) {
        left(x, y, false, want, 0, flags);
        left(x, y, true, want, 0, flags);
    }

    private static void cut(double x, double y, double want, int quotient) {
        left(Check.of(x), Check.of(y), false, Check.of(want), quotient, 0);
    }

    private static void near(double x, double y, double want, int quotient) {
        left(Check.of(x), Check.of(y), true, Check.of(want), quotient, 0);
    }

    private static void both(double x, double y, double want, int quotient) {
        cut(x, y, want, quotient);
        near(x, y, want, quotient);
    }

    private static void nans() {
        // Also beside an infinity as x and a zero as y, which come after this case: no INVALID.
        for (long nan : Check.NANS) {
            for (long number : Check.NUMBERS) {
                without(nan, number, Check.THE_NAN, 0);
                without(number, nan, Check.THE_NAN, 0);
            }
            for (long other : Check.NANS) {
                without(nan, other, Check.THE_NAN, 0);
            }
        }
    }

    private static void invalid() {
        for (long number : Check.NUMBERS) {
            without(Check.INFINITY, number, Check.THE_NAN, Check.INVALID);
            without(Check.MINUS_INFINITY, number, Check.THE_NAN, Check.INVALID);
            without(number, 0, Check.THE_NAN, Check.INVALID);
            without(number, Check.MINUS, Check.THE_NAN, Check.INVALID);
        }
    }

    private static void itself() {
        for (long number : Check.NUMBERS) {
            long amount = number & Long.MAX_VALUE;
            if (amount != Check.INFINITY) {
                without(number, Check.INFINITY, number, 0);
                without(number, Check.MINUS_INFINITY, number, 0);
            }
            if (amount != 0) {
                without(0, number, 0, 0);
                without(Check.MINUS, number, Check.MINUS, 0);
            }
        }
    }

    private static void cutOff() {
        cut(10, 3, 1, 3);
        cut(-10, 3, -1, 3);
        cut(10, -3, 1, 3);
        cut(-10, -3, -1, 3);
        cut(11, 3, 2, 3);
        cut(-15.5, 1, -0.5, 7);
        cut(5.75, 0.5, 0.25, 3);
        // Just below y, y itself, and just above it.
        cut(Math.nextDown(3.0), 3, Math.nextDown(3.0), 0);
        cut(3, 3, 0, 1);
        cut(Math.nextUp(3.0), 3, Math.nextUp(3.0) - 3, 1);
        // n is 0.
        cut(2, 3, 2, 0);
        cut(-2, 3, -2, 0);
        cut(1, Double.MAX_VALUE, 1, 0);
        cut(Math.nextDown(Double.MAX_VALUE), Double.MAX_VALUE, Math.nextDown(Double.MAX_VALUE), 0);
        left(7, 3, false, 1, 2, 0);
        left(1, 2, false, 1, 0, 0);
        left(Check.LEAST_NORMAL, Check.LEAST_NORMAL - 1, false, 1, 1, 0);
        left(Check.LEAST_NORMAL - 1, Check.LEAST_NORMAL, false, Check.LEAST_NORMAL - 1, 0, 0);
    }

    private static void toNearest() {
        near(10, 3, 1, 3);
        near(11, 3, -1, 4);
        near(-11, 3, 1, 4);
        near(11, -3, -1, 4);
        near(-11, -3, 1, 4);
        near(31, 4, -1, 0);
        near(29, 4, 1, 7);
        near(3, 4, -1, 1);
        near(1, 4, 1, 0);
        near(0.9, 1, 0.9 - 1, 1);
        near(1, Double.MAX_VALUE, 1, 0);
        near(Math.nextUp(Double.MAX_VALUE / 2), Double.MAX_VALUE, Math.nextUp(Double.MAX_VALUE / 2) - Double.MAX_VALUE, 1);
        near(Math.nextDown(Double.MAX_VALUE / 2), Double.MAX_VALUE, Math.nextDown(Double.MAX_VALUE / 2), 0);
        // x on the next finer power than y, on both sides of the half.
        near(Math.nextUp(1.0), 2, Math.nextUp(1.0) - 2, 1);
        near(Math.nextDown(1.0), 2, Math.nextDown(1.0), 0);
        near(1, Math.nextUp(2.0), 1, 0);
        near(1.5, Math.nextUp(2.0), 1.5 - Math.nextUp(2.0), 1);
        near(1, Math.nextDown(2.0), 1 - Math.nextDown(2.0), 1);
        near(Math.nextDown(2.0), 2, Math.nextDown(2.0) - 2, 1);
        near(Math.nextDown(1.0), Math.nextDown(4.0), Math.nextDown(1.0), 0);
        left(8, 3, true, Check.MINUS | 1, 3, 0);
        left(Check.LEAST_NORMAL - 1, Check.LEAST_NORMAL, true, Check.MINUS | 1, 1, 0);
        left(1, Check.of(1), true, 1, 0, 0);
        left(1, Check.GREATEST, true, 1, 0, 0);
    }

    private static void equallyNear() {
        for (int n = 0; n < 40; n++) {
            // 4n + 2 lies between n and n + 1 times 4.
            int even = n % 2 == 0 ? n : n + 1;
            double rest = n % 2 == 0 ? 2 : -2;
            near(4 * n + 2, 4, rest, even % 8);
            near(-(4 * n + 2), 4, -rest, even % 8);
            near(4 * n + 2, -4, rest, even % 8);
            near(-(4 * n + 2), -4, -rest, even % 8);
            cut(4 * n + 2, 4, 2, n % 8);
        }
        near(1, 2, 1, 0);
        near(Double.MAX_VALUE / 2, Double.MAX_VALUE, Double.MAX_VALUE / 2, 0);
        left(1, 2, true, 1, 0, 0);
        left(3, 2, true, Check.MINUS | 1, 2, 0);
        left(Check.MINUS | 3, 2, true, 1, 2, 0);
        left(Check.LEAST_NORMAL / 2, Check.LEAST_NORMAL, true, Check.LEAST_NORMAL / 2, 0, 0);
    }

    /** The amount of a finite pattern in units of 2^-1074. */
    private static BigInteger units(long x) {
        int e = (int) (x >>> 52 & 2047);
        long f = x & Check.LEAST_NORMAL - 1;
        return e == 0 ? BigInteger.valueOf(f) : BigInteger.valueOf(f + Check.LEAST_NORMAL).shiftLeft(e - 1);
    }

    private static BigInteger value(long x) {
        return x < 0 ? units(x).negate() : units(x);
    }

    /** n * y = x - result must hold with a whole n, and the result must be less than y, or no more than half of it. */
    private static void alwaysOne() {
        long[] amounts = {1, 2, 3, 7, Check.LEAST_NORMAL - 1, Check.LEAST_NORMAL, Check.LEAST_NORMAL + 1,
            2 * Check.LEAST_NORMAL - 1, 2 * Check.LEAST_NORMAL + 1, 4 * Check.LEAST_NORMAL + 3, Check.of(1), Check.of(1) + 1,
            Check.of(2) - 1, Check.of(3), Check.of(0.1), Check.of(1e300), Check.powerOfTwo(1023), Check.GREATEST - 1,
            Check.GREATEST};
        for (long x : amounts) {
            for (long y : amounts) {
                exactRest(x, y);
                exactRest(Check.MINUS | x, y);
                exactRest(x, Check.MINUS | y);
                exactRest(Check.MINUS | x, Check.MINUS | y);
            }
        }
    }

    private static void exactRest(long x, long y) {
        BinaryFunctions object = Check.with(x, y);
        object.left(2, 0, 1, false);
        object.left(3, 0, 1, true);
        BigInteger cut = value(object.bits(2));
        BigInteger near = value(object.bits(3));
        String call = "left of " + x + " by " + y;
        Check.due("multiple for " + call, value(x).subtract(cut).mod(units(y)).signum(), 0);
        Check.due("multiple for near " + call, value(x).subtract(near).mod(units(y)).signum(), 0);
        Check.due("amount after " + call, cut.abs().compareTo(units(y)), -1);
        Check.due("sign after " + call, object.bits(2) < 0, x < 0);
        Check.due("amount after near " + call, near.abs().shiftLeft(1).compareTo(units(y)) <= 0, true);
        Check.due("flags after " + call, object.flags(), 0);
    }

    private static void zeros() {
        both(8, 4, 0, 2);
        both(-8, 4, MINUS_ZERO, 2);
        both(8, -4, 0, 2);
        both(-8, -4, MINUS_ZERO, 2);
        for (long amount : new long[] {1, Check.LEAST_NORMAL - 1, Check.LEAST_NORMAL, Check.of(1), Check.GREATEST}) {
            for (long sign : new long[] {0, Check.MINUS}) {
                for (boolean near : new boolean[] {false, true}) {
                    left(amount, sign | amount, near, 0, 1, 0);
                    left(Check.MINUS | amount, sign | amount, near, Check.MINUS, 1, 0);
                }
            }
        }
        left(Check.MINUS | Check.GREATEST, 1, false, Check.MINUS, 0, 0);
        left(Check.MINUS | Check.GREATEST, 1, true, Check.MINUS, 0, 0);
    }

    private static void quotient() {
        for (int n = 0; n < 40; n++) {
            cut(n + 0.25, 1, 0.25, n % 8);
            cut(-n - 0.25, 1, -0.25, n % 8);
            cut(n + 0.75, -1, 0.75, n % 8);
            near(n + 0.75, 1, -0.25, (n + 1) % 8);
            near(-n - 0.75, 1, 0.25, (n + 1) % 8);
        }
        // n has more bits than a long.
        left(9214871658872686752L, 3, false, 2, 2, 0);
        left(9214871658872686752L, 3, true, Check.MINUS | 1, 3, 0);
        left(Check.GREATEST, 1, false, 0, 0, 0);
        // Powers of 2 leave 1, 2, 4 by 7 in turn; the last bits of n follow from n * 7 = 2^k - rest.
        int[] rests = {1, 2, 4};
        for (int k = 3; k < 1024; k++) {
            int rest = rests[k % 3];
            cut(Math.scalb(1.0, k), 7, rest, rest);
            near(Math.scalb(1.0, k), 7, rest == 4 ? -3 : rest, rest == 4 ? rest + 1 : rest);
        }
    }

    private static void quotientWithoutN() {
        without(Check.THE_NAN, Check.of(1), Check.THE_NAN, 0);
        without(Check.of(1), Check.THE_NAN, Check.THE_NAN, 0);
        without(Check.INFINITY, Check.of(1), Check.THE_NAN, Check.INVALID);
        without(Check.of(1), 0, Check.THE_NAN, Check.INVALID);
        without(Check.of(1), Check.INFINITY, Check.of(1), 0);
        without(0, Check.of(1), 0, 0);
    }

    private static void accepted() {
        for (int i = 0; i < 512; i++) {
            int to = i / 64;
            int a = i / 8 % 8;
            int b = i % 8;
            double x = Check.USED[a];
            double y = Check.USED[b];
            String call = "left(" + to + ", " + a + ", " + b + ")";
            Check.accepted(call, o -> o.left(to, a, b, false), to, Check.of(x % y));
            Check.accepted(call + " near", o -> o.left(to, a, b, true), to, Check.of(Math.IEEEremainder(x, y)));
        }
    }

    private static void refused() {
        for (int bad : Check.NO_REGISTERS) {
            for (int i = 0; i < 64; i++) {
                int one = i / 8;
                int two = i % 8;
                boolean near = (one + two) % 2 == 0;
                String call = "left with " + bad + " beside " + one + " and " + two;
                Check.refused(call + " as to", x -> x.left(bad, one, two, near));
                Check.refused(call + " as a", x -> x.left(one, bad, two, near));
                Check.refused(call + " as b", x -> x.left(one, two, bad, near));
            }
        }
    }
}
