/** Promises 6 (left) and 7 (quotient). */
public final class LeftTest {
    private LeftTest() {
    }

    private static void left(long x, long y, boolean near, long want, int quotient, int flags) {
        BinaryFunctions object = Check.with(x, y);
        // A quotient other than 0, so that the cases without n must set it.
        object.load(3, Check.of(5));
        object.load(4, Check.of(1));
        object.left(2, 3, 4, false);
        String call = "left of " + x + " by " + y + (near ? " near" : "");
        Check.due("quotient before " + call, object.quotient(), 5);
        Check.due(call, object.left(2, 0, 1, near), true);
        Check.due("bits after " + call, object.bits(2), want);
        Check.due("quotient after " + call, object.quotient(), quotient);
        Check.due("flags after " + call, object.flags(), flags);
    }

    private static void without(long x, long y, long want, int flags) {
        left(x, y, false, want, 0, flags);
        left(x, y, true, want, 0, flags);
    }

    private static void cut(double x, double y, double want, int quotient) {
        left(Check.of(x), Check.of(y), false, Check.of(want), quotient, 0);
    }

    private static void near(double x, double y, double want, int quotient) {
        left(Check.of(x), Check.of(y), true, Check.of(want), quotient, 0);
    }

    public static void main(String[] args) {
        casesWithoutN();
        cutOff();
        toNearest();
        smallAmounts();
        farApart();
        quotientStays();
        Check.finish("LeftTest");
    }

    private static void casesWithoutN() {
        long[] others = {0, Check.MINUS, 1, Check.of(1), Check.of(-2.5), Check.INFINITY, Check.MINUS | Check.INFINITY, Check.THE_NAN};
        for (long nan : Check.NANS) {
            for (long other : others) {
                without(nan, other, Check.THE_NAN, 0);
                without(other, nan, Check.THE_NAN, 0);
            }
        }
        for (int i = 0; i < 7; i++) {
            without(Check.INFINITY, others[i], Check.THE_NAN, Check.INVALID);
            without(Check.MINUS | Check.INFINITY, others[i], Check.THE_NAN, Check.INVALID);
            without(others[i], 0, Check.THE_NAN, Check.INVALID);
            without(others[i], Check.MINUS, Check.THE_NAN, Check.INVALID);
        }
        long[] divisors = {1, Check.of(1), Check.of(-2.5), Check.GREATEST, Check.INFINITY, Check.MINUS | Check.INFINITY};
        for (long divisor : divisors) {
            without(0, divisor, 0, 0);
            without(Check.MINUS, divisor, Check.MINUS, 0);
        }
        for (long x : new long[] {1, Check.of(3.5), Check.of(-3.5), Check.GREATEST, Check.MINUS | Check.GREATEST}) {
            without(x, Check.INFINITY, x, 0);
            without(x, Check.MINUS | Check.INFINITY, x, 0);
        }
    }

    private static void cutOff() {
        cut(10, 3, 1, 3);
        cut(-10, 3, -1, 3);
        cut(10, -3, 1, 3);
        cut(-10, -3, -1, 3);
        cut(8, 4, 0, 2);
        cut(-8, 4, -0.0, 2);
        cut(-8, -4, -0.0, 2);
        cut(8, -4, 0, 2);
        cut(7, 1, 0, 7);
        cut(8, 1, 0, 0);
        cut(9, 1, 0, 1);
        cut(-15.5, 1, -0.5, 7);
        cut(2, 3, 2, 0);
        cut(-2, 3, -2, 0);
        cut(Math.nextDown(3.0), 3, Math.nextDown(3.0), 0);
        cut(5.75, 0.5, 0.25, 3);
        cut(1, Double.MAX_VALUE, 1, 0);
    }

    private static void toNearest() {
        near(10, 3, 1, 3);
        near(11, 3, -1, 4);
        near(-11, 3, 1, 4);
        near(11, -3, -1, 4);
        near(-11, -3, 1, 4);
        near(8, 4, 0, 2);
        near(-8, 4, -0.0, 2);
        // Of two equally near the even one.
        near(2, 4, 2, 0);
        near(6, 4, -2, 2);
        near(10, 4, 2, 2);
        near(14, 4, -2, 4);
        near(-2, 4, -2, 0);
        near(-6, 4, 2, 2);
        near(30, 4, -2, 0);
        near(31, 4, -1, 0);
        near(29, 4, 1, 7);
        near(3, 4, -1, 1);
        near(1, 4, 1, 0);
        near(0.9, 1, 0.9 - 1, 1);
        near(1, Double.MAX_VALUE, 1, 0);
        near(Double.MAX_VALUE / 2, Double.MAX_VALUE, Double.MAX_VALUE / 2, 0);
        near(Math.nextUp(Double.MAX_VALUE / 2), Double.MAX_VALUE, Math.nextUp(Double.MAX_VALUE / 2) - Double.MAX_VALUE, 1);
        // x on the next finer power than y, on both sides of the half.
        near(Math.nextUp(1.0), 2, Math.nextUp(1.0) - 2, 1);
        near(1, 2, 1, 0);
        near(1, Math.nextUp(2.0), 1, 0);
        near(1.5, Math.nextUp(2.0), 1.5 - Math.nextUp(2.0), 1);
        near(1, Math.nextDown(2.0), 1 - Math.nextDown(2.0), 1);
        near(Math.nextDown(1.0), 2, Math.nextDown(1.0), 0);
        near(Math.nextDown(2.0), 2, Math.nextDown(2.0) - 2, 1);
        near(Math.nextDown(1.0), Math.nextDown(4.0), Math.nextDown(1.0), 0);
    }

    private static void smallAmounts() {
        left(7, 3, false, 1, 2, 0);
        left(8, 3, true, Check.MINUS | 1, 3, 0);
        left(1, 2, true, 1, 0, 0);
        left(3, 2, true, Check.MINUS | 1, 2, 0);
        left(Check.MINUS | 3, 2, true, 1, 2, 0);
        left(Check.LEAST_NORMAL, Check.LEAST_NORMAL - 1, false, 1, 1, 0);
        left(Check.LEAST_NORMAL - 1, Check.LEAST_NORMAL, true, Check.MINUS | 1, 1, 0);
        left(Check.LEAST_NORMAL - 1, Check.LEAST_NORMAL, false, Check.LEAST_NORMAL - 1, 0, 0);
        left(2 * Check.LEAST_NORMAL + 1, Check.LEAST_NORMAL + 5, false, Check.LEAST_NORMAL - 3, 1, 0);
        left(1, Check.of(1), true, 1, 0, 0);
        left(1, Check.GREATEST, true, 1, 0, 0);
    }

    private static void farApart() {
        left(9214871658872686752L, 3, false, 2, 2, 0);
        left(9214871658872686752L, 3, true, Check.MINUS | 1, 3, 0);
        left(Check.GREATEST, 1, false, 0, 0, 0);
        left(Check.MINUS | Check.GREATEST, 1, true, Check.MINUS, 0, 0);
        // Powers of 2 leave 1, 2, 4 by 7 in turn; the last bits of n follow from n * 7 = 2^k - rest.
        int[] rests = {1, 2, 4};
        for (int k = 3; k < 1024; k++) {
            int rest = rests[k % 3];
            int quotient = rest;
            cut(Math.scalb(1.0, k), 7, rest, quotient);
            near(Math.scalb(1.0, k), 7, rest == 4 ? -3 : rest, rest == 4 ? quotient + 1 : quotient);
        }
    }

    private static void quotientStays() {
        BinaryFunctions x = Check.with(Check.of(13), Check.of(2));
        Check.due("quotient of a new object", x.quotient(), 0);
        x.left(2, 0, 1, false);
        Check.due("quotient", x.quotient(), 6);
        x.sqrt(3, 0);
        x.whole(3, 0, 0);
        x.scale(3, 0, 5);
        x.neighbour(3, 0, 1);
        x.load(3, 9);
        x.clear();
        x.left(8, 1, 0, false);
        Check.due("quotient after other calls", x.quotient(), 6);
        Check.due("quotient asked again", x.quotient(), 6);
    }
}
