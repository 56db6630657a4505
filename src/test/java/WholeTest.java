/** Promise 5: whole. */
public final class WholeTest {
    private static final String PROMISE = "Promise 5";
    private static final double MINUS_ZERO = -0.0;

    /** 2^52 - 1/2, the greatest value that is not whole. */
    private static final double LAST_BROKEN = 4503599627370495.5;

    private WholeTest() {
    }

    public static void main(String[] args) {
        Check.sentence(PROMISE, "THE NAN when x is a NAN", WholeTest::nans);
        Check.sentence(PROMISE, "x itself when x is a zero or an infinity", WholeTest::itself);
        Check.sentence(PROMISE, "otherwise the pattern with the SIGN of x (also when it is a zero)", WholeTest::zeros);
        Check.sentence(PROMISE, "for how = 0 the whole number nearest to x's value", WholeTest::nearest);
        Check.sentence(PROMISE, "of two equally near the even one", WholeTest::equallyNear);
        Check.sentence(PROMISE, "for 1 the greatest whole number that is not greater", WholeTest::down);
        Check.sentence(PROMISE, "for 2 the least that is not less", WholeTest::up);
        Check.sentence(PROMISE, "for 3 the one nearest to 0 of the results for 1 and 2", WholeTest::towardsZero);
        Check.sentence(PROMISE, "With how = 0 INEXACT is set when the value is not x's", WholeTest::inexact);
        Check.sentence(PROMISE, "with the others no flag is.", WholeTest::noFlag);
        Check.sentence(PROMISE, "Answers true", WholeTest::accepted);
        Check.sentence(PROMISE, "refused with false when a register number is not 0 .. 7", WholeTest::refused);
        Check.sentence(PROMISE, "or how is not 0 .. 3.", WholeTest::wrongHow);
        Check.finish("WholeTest");
    }

    private static void made(long x, int how, long want, int flags) {
        BinaryFunctions object = Check.with(x, 77);
        String call = "whole of " + x + " how " + how;
        Check.due(call, object.whole(1, 0, how), true);
        Check.due("bits after " + call, object.bits(1), want);
        Check.due("flags after " + call, object.flags(), flags);
        Check.due("from after " + call, object.bits(0), x);
    }

    private static void made(double x, int how, double want) {
        int flags = how == 0 && x != want ? Check.INEXACT : 0;
        made(Check.of(x), how, Check.of(want), flags);
    }

    private static void unchanged(long x) {
        for (int how = 0; how < 4; how++) {
            made(x, how, x, 0);
        }
    }

    private static void nans() {
        for (long nan : Check.NANS) {
            for (int how = 0; how < 4; how++) {
                made(nan, how, Check.THE_NAN, 0);
            }
        }
    }

    private static void itself() {
        unchanged(0);
        unchanged(Check.MINUS);
        unchanged(Check.INFINITY);
        unchanged(Check.MINUS_INFINITY);
    }

    private static void zeros() {
        double[] amounts = {Double.MIN_VALUE, Math.nextDown(Double.MIN_NORMAL), Double.MIN_NORMAL, 0.25, 0.5};
        for (double amount : amounts) {
            made(amount, 0, 0);
            made(amount, 1, 0);
            made(amount, 3, 0);
            made(-amount, 0, MINUS_ZERO);
            made(-amount, 2, MINUS_ZERO);
            made(-amount, 3, MINUS_ZERO);
        }
        made(Math.nextDown(1.0), 3, 0);
        made(-Math.nextDown(1.0), 3, MINUS_ZERO);
        made(-Math.nextDown(1.0), 2, MINUS_ZERO);
    }

    private static void nearest() {
        made(0.75, 0, 1);
        made(-0.75, 0, -1);
        made(2.25, 0, 2);
        made(2.75, 0, 3);
        made(-2.75, 0, -3);
        made(Math.nextUp(0.5), 0, 1);
        made(Math.nextDown(0.5), 0, 0);
        made(-Math.nextUp(0.5), 0, -1);
        made(-Math.nextDown(0.5), 0, MINUS_ZERO);
        made(Math.nextUp(2.5), 0, 3);
        made(Math.nextDown(2.5), 0, 2);
        made(Math.nextUp(3.5), 0, 4);
        made(Math.nextDown(3.5), 0, 3);
        made(Math.nextDown(1.0), 0, 1);
        made(Math.nextUp(1.0), 0, 1);
        // Every power of two below a half, so that the shift runs through all its widths.
        for (int k = 2; k <= 1074; k++) {
            made(Math.scalb(1.0, -k), 0, 0);
            made(-Math.scalb(1.0, -k), 0, MINUS_ZERO);
            made(Math.nextUp(Math.scalb(1.0, -k)), 0, 0);
        }
    }

    private static void equallyNear() {
        made(0.5, 0, 0);
        made(-0.5, 0, MINUS_ZERO);
        for (int i = 0; i < 100; i++) {
            made(i + 0.5, 0, i % 2 == 0 ? i : i + 1);
            made(-i - 0.5, 0, i % 2 == 0 ? -(double) i : -i - 1);
        }
        made(LAST_BROKEN, 0, LAST_BROKEN + 0.5);
        made(-LAST_BROKEN, 0, -LAST_BROKEN - 0.5);
        made(LAST_BROKEN - 1, 0, LAST_BROKEN - 1.5);
        made(1.5, 0, 2);
        made(3.5, 0, 4);
        made(7.5, 0, 8);
    }

    private static void down() {
        made(2.5, 1, 2);
        made(-2.5, 1, -3);
        made(Math.nextUp(2.0), 1, 2);
        made(Math.nextDown(2.0), 1, 1);
        made(-Math.nextUp(2.0), 1, -3);
        made(-Math.nextDown(2.0), 1, -2);
        made(2, 1, 2);
        made(-2, 1, -2);
        made(Double.MIN_VALUE, 1, 0);
        made(-Double.MIN_VALUE, 1, -1);
        made(-Double.MIN_NORMAL, 1, -1);
        made(LAST_BROKEN, 1, LAST_BROKEN - 0.5);
        made(-LAST_BROKEN, 1, -LAST_BROKEN - 0.5);
        for (int k = 1; k <= 1074; k++) {
            made(-Math.scalb(1.0, -k), 1, -1);
        }
    }

    private static void up() {
        made(2.5, 2, 3);
        made(-2.5, 2, -2);
        made(Math.nextUp(2.0), 2, 3);
        made(Math.nextDown(2.0), 2, 2);
        made(-Math.nextUp(2.0), 2, -2);
        made(-Math.nextDown(2.0), 2, -1);
        made(2, 2, 2);
        made(-2, 2, -2);
        made(Double.MIN_VALUE, 2, 1);
        made(-Double.MIN_VALUE, 2, MINUS_ZERO);
        made(Double.MIN_NORMAL, 2, 1);
        made(LAST_BROKEN, 2, LAST_BROKEN + 0.5);
        made(-LAST_BROKEN, 2, -LAST_BROKEN + 0.5);
        for (int k = 1; k <= 1074; k++) {
            made(Math.scalb(1.0, -k), 2, 1);
        }
    }

    private static void towardsZero() {
        made(2.5, 3, 2);
        made(-2.5, 3, -2);
        made(Math.nextDown(3.0), 3, 2);
        made(-Math.nextDown(3.0), 3, -2);
        made(3, 3, 3);
        made(-3, 3, -3);
        made(Double.MIN_VALUE, 3, 0);
        made(-Double.MIN_VALUE, 3, MINUS_ZERO);
        made(LAST_BROKEN, 3, LAST_BROKEN - 0.5);
        made(-LAST_BROKEN, 3, -LAST_BROKEN + 0.5);
    }

    private static void inexact() {
        // From 2^52 on every value is whole; below it the last bits may lie behind the point.
        double[] wholes = {1, 2, 3, 7, 8, 1e15, LAST_BROKEN - 0.5, LAST_BROKEN + 0.5, 9007199254740991.0,
            9007199254740992.0, 9007199254740994.0, 1e300, Double.MAX_VALUE};
        for (double value : wholes) {
            unchanged(Check.of(value));
            unchanged(Check.of(-value));
        }
        for (double value : new double[] {Double.MIN_VALUE, Double.MIN_NORMAL, 0.5, 1.5, Math.nextUp(1.0), LAST_BROKEN}) {
            made(Check.of(value), 0, Check.of(Math.rint(value)), Check.INEXACT);
            made(Check.of(-value), 0, Check.of(Math.rint(-value)), Check.INEXACT);
        }
    }

    private static void noFlag() {
        for (double value : new double[] {Double.MIN_VALUE, Double.MIN_NORMAL, 0.5, 1.5, Math.nextUp(1.0), LAST_BROKEN}) {
            for (double x : new double[] {value, -value}) {
                made(Check.of(x), 1, Check.of(Math.floor(x)), 0);
                made(Check.of(x), 2, Check.of(Math.ceil(x)), 0);
                made(Check.of(x), 3, Check.of(x < 0 ? Math.ceil(x) : Math.floor(x)), 0);
            }
        }
    }

    private static void accepted() {
        for (int i = 0; i < 64; i++) {
            int to = i / 8;
            int from = i % 8;
            double v = Check.USED[from];
            double[] wants = {Math.rint(v), Math.floor(v), Math.ceil(v), v < 0 ? Math.ceil(v) : Math.floor(v)};
            for (int how = 0; how < 4; how++) {
                int way = how;
                String call = "whole(" + to + ", " + from + ", " + how + ")";
                Check.accepted(call, x -> x.whole(to, from, way), to, Check.of(wants[how]));
            }
        }
    }

    private static void refused() {
        for (int bad : Check.NO_REGISTERS) {
            for (int i = 0; i < 32; i++) {
                int r = i / 4;
                int how = i % 4;
                Check.refused("whole(" + bad + ", " + r + ", " + how + ")", x -> x.whole(bad, r, how));
                Check.refused("whole(" + r + ", " + bad + ", " + how + ")", x -> x.whole(r, bad, how));
            }
        }
    }

    private static void wrongHow() {
        for (int how : new int[] {-1, 4, 5, 7, 8, -4, 256, 65536, Integer.MIN_VALUE, Integer.MAX_VALUE}) {
            for (int i = 0; i < 64; i++) {
                int to = i / 8;
                int from = i % 8;
                Check.refused("whole(" + to + ", " + from + ", " + how + ")", x -> x.whole(to, from, how));
            }
        }
    }
}
