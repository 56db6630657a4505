/** Promise 8: neighbour. */
public final class NeighbourTest {
    private static final String PROMISE = "Promise 8";

    private NeighbourTest() {
    }

    public static void main(String[] args) {
        Check.sentence(PROMISE, "THE NAN when one of them is a NAN", NeighbourTest::nans);
        Check.sentence(PROMISE, "x itself when they have the same value", NeighbourTest::sameValue);
        Check.sentence(PROMISE, "(the two zeros have)", NeighbourTest::zeroTowardsZero);
        Check.sentence(PROMISE, "or are the same infinity", NeighbourTest::sameInfinity);
        Check.sentence(PROMISE, "the one that comes next to x on the side of y", NeighbourTest::sideOfY);
        Check.sentence(PROMISE, "with the infinities at the ends", NeighbourTest::ends);
        Check.sentence(PROMISE, "and the two zeros taken as one", NeighbourTest::fromZero);
        Check.sentence(PROMISE, "when that is a zero, it has the SIGN of x", NeighbourTest::toZero);
        Check.sentence(PROMISE, "No flag is set.", NeighbourTest::noFlag);
        Check.sentence(PROMISE, "Answers true", NeighbourTest::accepted);
        Check.sentence(PROMISE, "refused with false when a register number is not 0 .. 7.", NeighbourTest::refused);
        Check.finish("NeighbourTest");
    }

    private static void next(long x, long y, long want) {
        BinaryFunctions object = Check.with(x, y);
        String call = "neighbour of " + x + " towards " + y;
        Check.due(call, object.neighbour(2, 0, 1), true);
        Check.due("bits after " + call, object.bits(2), want);
        Check.due("flags after " + call, object.flags(), 0);
        Check.due("x after " + call, object.bits(0), x);
        Check.due("y after " + call, object.bits(1), y);
    }

    /** The same with both signs turned round. */
    private static void mirrored(long x, long y, long want) {
        next(x, y, want);
        next(Check.MINUS ^ x, Check.MINUS ^ y, Check.MINUS ^ want);
    }

    private static void nans() {
        for (long nan : Check.NANS) {
            for (long number : Check.NUMBERS) {
                next(nan, number, Check.THE_NAN);
                next(number, nan, Check.THE_NAN);
            }
            for (long other : Check.NANS) {
                next(nan, other, Check.THE_NAN);
            }
        }
    }

    private static void sameValue() {
        for (long number : Check.NUMBERS) {
            next(number, number, number);
        }
    }

    private static void zeroTowardsZero() {
        next(0, 0, 0);
        next(0, Check.MINUS, 0);
        next(Check.MINUS, 0, Check.MINUS);
        next(Check.MINUS, Check.MINUS, Check.MINUS);
    }

    private static void sameInfinity() {
        next(Check.INFINITY, Check.INFINITY, Check.INFINITY);
        next(Check.MINUS_INFINITY, Check.MINUS_INFINITY, Check.MINUS_INFINITY);
    }

    private static void sideOfY() {
        long one = Check.of(1);
        mirrored(one, Check.of(2), one + 1);
        mirrored(one, Check.of(0.5), one - 1);
        mirrored(one, Check.of(-5), one - 1);
        mirrored(one, 0, one - 1);
        mirrored(one, Check.MINUS, one - 1);
        mirrored(one, one + 1, one + 1);
        mirrored(one, one - 1, one - 1);
        mirrored(one, Check.INFINITY, one + 1);
        mirrored(one, Check.MINUS_INFINITY, one - 1);
        mirrored(2, 0, 1);
        mirrored(2, 3, 3);
        // From the last SMALL to the first NORMAL pattern and back, and over a step of E.
        mirrored(Check.LEAST_NORMAL - 1, one, Check.LEAST_NORMAL);
        mirrored(Check.LEAST_NORMAL, 0, Check.LEAST_NORMAL - 1);
        mirrored(2 * Check.LEAST_NORMAL - 1, one, 2 * Check.LEAST_NORMAL);
        mirrored(2 * Check.LEAST_NORMAL, 0, 2 * Check.LEAST_NORMAL - 1);
    }

    private static void ends() {
        mirrored(Check.GREATEST, Check.INFINITY, Check.INFINITY);
        mirrored(Check.GREATEST, 0, Check.GREATEST - 1);
        mirrored(Check.GREATEST, Check.MINUS_INFINITY, Check.GREATEST - 1);
        mirrored(Check.INFINITY, 0, Check.GREATEST);
        mirrored(Check.INFINITY, Check.MINUS, Check.GREATEST);
        mirrored(Check.INFINITY, Check.GREATEST, Check.GREATEST);
        mirrored(Check.INFINITY, Check.MINUS | Check.GREATEST, Check.GREATEST);
        mirrored(Check.INFINITY, Check.MINUS_INFINITY, Check.GREATEST);
    }

    private static void fromZero() {
        for (long amount : new long[] {1, 2, Check.LEAST_NORMAL, Check.of(1), Check.GREATEST, Check.INFINITY}) {
            mirrored(0, amount, 1);
            mirrored(Check.MINUS, amount, 1);
        }
    }

    private static void toZero() {
        mirrored(1, 0, 0);
        mirrored(1, Check.MINUS, 0);
        mirrored(1, Check.MINUS | 1, 0);
        mirrored(1, Check.of(-1), 0);
        mirrored(1, Check.MINUS_INFINITY, 0);
    }

    private static void noFlag() {
        for (long x : Check.NUMBERS) {
            for (long y : Check.NUMBERS) {
                BinaryFunctions object = Check.with(x, y);
                object.neighbour(2, 0, 1);
                Check.due("flags after neighbour of " + x + " towards " + y, object.flags(), 0);
            }
        }
    }

    private static void accepted() {
        for (int i = 0; i < 512; i++) {
            int to = i / 64;
            int a = i / 8 % 8;
            int b = i % 8;
            long want = Check.of(Math.nextAfter(Check.USED[a], Check.USED[b]));
            Check.accepted("neighbour(" + to + ", " + a + ", " + b + ")", x -> x.neighbour(to, a, b), to, want);
        }
    }

    private static void refused() {
        for (int bad : Check.NO_REGISTERS) {
            for (int i = 0; i < 64; i++) {
                int one = i / 8;
                int two = i % 8;
                String call = "neighbour with " + bad + " beside " + one + " and " + two;
                Check.refused(call + " as to", x -> x.neighbour(bad, one, two));
                Check.refused(call + " as a", x -> x.neighbour(one, bad, two));
                Check.refused(call + " as b", x -> x.neighbour(one, two, bad));
            }
        }
    }
}
