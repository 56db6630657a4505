/** Promise 8: neighbour. */
public final class NeighbourTest {
    private NeighbourTest() {
    }

    private static void next(long x, long y, long want) {
        BinaryFunctions object = Check.with(x, y);
        String call = "neighbour of " + x + " towards " + y;
        Check.due(call, object.neighbour(2, 0, 1), true);
        Check.due("bits after " + call, object.bits(2), want);
        Check.due("flags after " + call, object.flags(), 0);
    }

    public static void main(String[] args) {
        nans();
        sameValue();
        aroundZero();
        aroundInfinity();
        ordinary();
        Check.finish("NeighbourTest");
    }

    private static void nans() {
        for (long nan : Check.NANS) {
            for (long other : new long[] {0, Check.of(1), Check.INFINITY, Check.MINUS | Check.INFINITY, Check.THE_NAN}) {
                next(nan, other, Check.THE_NAN);
                next(other, nan, Check.THE_NAN);
            }
        }
    }

    private static void sameValue() {
        next(0, Check.MINUS, 0);
        next(Check.MINUS, 0, Check.MINUS);
        for (long amount : new long[] {0, 1, Check.LEAST_NORMAL, Check.of(1), Check.GREATEST, Check.INFINITY}) {
            next(amount, amount, amount);
            next(Check.MINUS | amount, Check.MINUS | amount, Check.MINUS | amount);
        }
    }

    private static void aroundZero() {
        for (long zero : new long[] {0, Check.MINUS}) {
            for (long amount : new long[] {1, 2, Check.of(1), Check.GREATEST, Check.INFINITY}) {
                next(zero, amount, 1);
                next(zero, Check.MINUS | amount, Check.MINUS | 1);
            }
            next(1, zero, 0);
            next(Check.MINUS | 1, zero, Check.MINUS);
        }
        next(1, Check.MINUS | 1, 0);
        next(1, Check.MINUS | Check.INFINITY, 0);
        next(Check.MINUS | 1, 1, Check.MINUS);
        next(Check.MINUS | 1, Check.INFINITY, Check.MINUS);
        next(2, 0, 1);
        next(Check.MINUS | 2, 0, Check.MINUS | 1);
    }

    private static void aroundInfinity() {
        long minusInfinity = Check.MINUS | Check.INFINITY;
        next(Check.GREATEST, Check.INFINITY, Check.INFINITY);
        next(Check.MINUS | Check.GREATEST, minusInfinity, minusInfinity);
        next(Check.INFINITY, 0, Check.GREATEST);
        next(Check.INFINITY, Check.GREATEST, Check.GREATEST);
        next(Check.INFINITY, minusInfinity, Check.GREATEST);
        next(minusInfinity, Check.INFINITY, Check.MINUS | Check.GREATEST);
        next(minusInfinity, Check.MINUS, Check.MINUS | Check.GREATEST);
    }

    private static void ordinary() {
        long one = Check.of(1);
        next(one, Check.of(2), one + 1);
        next(one, Check.of(0.5), one - 1);
        next(one, Check.of(-5), one - 1);
        next(Check.of(-1), Check.of(5), Check.of(-1) - 1);
        next(Check.of(-1), Check.of(-5), Check.of(-1) + 1);
        next(one, one + 1, one + 1);
        next(Check.LEAST_NORMAL, 0, Check.LEAST_NORMAL - 1);
        next(Check.LEAST_NORMAL - 1, one, Check.LEAST_NORMAL);
        next(2 * Check.LEAST_NORMAL - 1, one, 2 * Check.LEAST_NORMAL);
    }
}
