import java.math.BigDecimal;
import java.math.BigInteger;

/**
 * Promises 4 to 12 on many patterns, beside what Java's own doubles and exact big numbers answer: all
 * pairs of patterns at the edges of E and F, and others from a fixed formula, so that every run is the
 * same.
 */
public final class AgainstJavaTest {
    private static final int ROUNDS = 60_000;
    private static final BigDecimal TWO = BigDecimal.valueOf(2);

    /** At both ends, round the width of F, round the value 1, and where the last bit of F counts 1. */
    private static final int[] EDGES_OF_E = {0, 1, 2, 3, 52, 53, 54, 1021, 1022, 1023, 1024, 1074, 1075, 1076,
        2044, 2045, 2046, 2047};
    private static final long[] EDGES_OF_F = {0, 1, 2, 3, (1L << 51) - 1, 1L << 51, (1L << 51) + 1,
        (1L << 52) - 2, (1L << 52) - 1};
    private static final int[] EDGES_OF_N = {0, 1, 2, 51, 52, 53, 54, 1021, 1022, 1023, 1024, 1073, 1074, 1075, 1076,
        2044, 2045, 2046, 2047, 2096, 2097, 2098, 2099, 2100, Integer.MAX_VALUE - 1, Integer.MAX_VALUE};

    private static long seed = 20261115L;

    private AgainstJavaTest() {
    }

    public static void main(String[] args) {
        edges();
        fromFormula();
        Check.finish("AgainstJavaTest");
    }

    private static void edges() {
        long[] patterns = edgePatterns();
        for (long x : patterns) {
            sqrt(x);
            whole(x);
            for (int n : EDGES_OF_N) {
                scale(x, n);
                scale(x, -n);
            }
            scale(x, Integer.MIN_VALUE);
            for (long y : patterns) {
                left(x, y);
                neighbour(x, y);
                reading(x, y);
            }
        }
    }

    private static long[] edgePatterns() {
        long[] patterns = new long[2 * EDGES_OF_E.length * EDGES_OF_F.length];
        int count = 0;
        for (int e : EDGES_OF_E) {
            for (long f : EDGES_OF_F) {
                patterns[count++] = ((long) e << 52) + f;
                patterns[count++] = Check.MINUS | ((long) e << 52) + f;
            }
        }
        return patterns;
    }

    private static void fromFormula() {
        for (int i = 0; i < ROUNDS; i++) {
            long x = pattern();
            long y = i % 3 == 0 ? pattern() : near(x);
            sqrt(x);
            whole(x);
            left(x, y);
            left(y, x);
            neighbour(x, y);
            scale(x, power());
            reading(x, y);
        }
    }

    private static long next() {
        seed += 0x9E3779B97F4A7C15L;
        long z = (seed ^ (seed >>> 30)) * 0xBF58476D1CE4E5B9L;
        z = (z ^ (z >>> 27)) * 0x94D049BB133111EBL;
        return z ^ (z >>> 31);
    }

    private static int below(int bound) {
        return (int) Long.remainderUnsigned(next(), bound);
    }

    /** All kinds of patterns: with few bits, many bits, at the edges, near whole numbers. */
    private static long pattern() {
        long sign = next() & Check.MINUS;
        switch (below(7)) {
            case 0:
                return next();
            case 1:
                return sign | (next() >>> (1 + below(63)));
            case 2:
                return sign | ((long) below(2048) << 52) | (next() >>> 12 >>> below(52) << below(52) & (1L << 52) - 1);
            case 3:
                return sign | ((long) below(2048) << 52) + below(9) - 4 & Long.MAX_VALUE;
            case 4:
                return sign | Check.of(below(4000) / 8.0);
            case 5:
                return sign | Check.of((next() >>> 10 >>> below(54)) / 2.0);
            default:
                return sign | ((long) (1000 + below(80)) << 52) | next() >>> 12;
        }
    }

    /** A pattern whose E is not far from that of x. */
    private static long near(long x) {
        long amount = (x & Long.MAX_VALUE) + ((long) (below(9) - 4) << 52) + (next() >> (12 + below(52)));
        return next() & Check.MINUS | amount & Long.MAX_VALUE;
    }

    private static int power() {
        switch (below(4)) {
            case 0:
                return below(41) - 20;
            case 1:
                return (int) next();
            default:
                return below(4401) - 2200;
        }
    }

    private static double value(long x) {
        return Double.longBitsToDouble(x);
    }

    private static boolean finite(long x) {
        return Double.isFinite(value(x));
    }

    private static boolean same(BigDecimal a, BigDecimal b) {
        return a.compareTo(b) == 0;
    }

    private static void outcome(String call, BinaryFunctions x, long want, int flags) {
        Check.due("bits after " + call, x.bits(2), want);
        Check.due("flags after " + call, x.flags(), flags);
    }

    private static void sqrt(long x) {
        BinaryFunctions object = Check.with(x, 0);
        object.sqrt(2, 0);
        double root = Math.sqrt(value(x));
        int flags = 0;
        if (Double.isNaN(root) && !Double.isNaN(value(x))) {
            flags = Check.INVALID;
        } else if (Double.isFinite(root) && !same(new BigDecimal(root).pow(2), new BigDecimal(value(x)))) {
            flags = Check.INEXACT;
        }
        outcome("sqrt of " + x, object, Check.result(root), flags);
    }

    private static void whole(long x) {
        double v = value(x);
        double[] wants = {Math.rint(v), Math.floor(v), Math.ceil(v), v < 0 ? Math.ceil(v) : Math.floor(v)};
        for (int how = 0; how < 4; how++) {
            BinaryFunctions object = Check.with(x, 0);
            object.whole(2, 0, how);
            int flags = how == 0 && finite(x) && wants[0] != v ? Check.INEXACT : 0;
            outcome("whole of " + x + " how " + how, object, Check.result(wants[how]), flags);
        }
    }

    /** The amount of a finite pattern in units of 2^-1074. */
    private static BigInteger units(long x) {
        int e = (int) (x >>> 52 & 2047);
        long f = x & (1L << 52) - 1;
        return e == 0 ? BigInteger.valueOf(f) : BigInteger.valueOf(f + (1L << 52)).shiftLeft(e - 1);
    }

    private static int lastBits(long x, long y, boolean near) {
        if (!finite(x) || !finite(y) || value(x) == 0 || value(y) == 0) {
            return 0;
        }
        BigInteger[] parts = units(x).divideAndRemainder(units(y));
        int side = parts[1].shiftLeft(1).compareTo(units(y));
        boolean up = near && (side > 0 || side == 0 && parts[0].testBit(0));
        return parts[0].add(up ? BigInteger.ONE : BigInteger.ZERO).intValue() & 7;
    }

    private static void left(long x, long y) {
        double a = value(x);
        double b = value(y);
        boolean invalid = !Double.isNaN(a) && !Double.isNaN(b) && (Double.isInfinite(a) || b == 0);
        for (boolean near : new boolean[] {false, true}) {
            BinaryFunctions object = Check.with(x, y);
            object.left(2, 0, 1, near);
            String call = "left of " + x + " by " + y + " near " + near;
            outcome(call, object, Check.result(near ? Math.IEEEremainder(a, b) : a % b), invalid ? Check.INVALID : 0);
            Check.due("quotient after " + call, object.quotient(), lastBits(x, y, near));
        }
    }

    private static void neighbour(long x, long y) {
        BinaryFunctions object = Check.with(x, y);
        object.neighbour(2, 0, 1);
        long want = value(x) == value(y) ? x : Check.result(Math.nextAfter(value(x), value(y)));
        outcome("neighbour of " + x + " towards " + y, object, want, 0);
    }

    private static void scale(long x, int n) {
        BinaryFunctions object = Check.with(x, 0);
        object.scale(2, 0, n);
        double want = Math.scalb(value(x), n);
        int flags = 0;
        if (finite(x) && Double.isInfinite(want)) {
            flags = Check.INEXACT | Check.OVERFLOW;
        } else if (finite(x) && !sameScaled(x, n, want)) {
            flags = Math.abs(want) < Double.MIN_NORMAL ? Check.INEXACT | Check.UNDERFLOW : Check.INEXACT;
        }
        outcome("scale of " + x + " by " + n, object, Check.result(want), flags);
    }

    private static boolean sameScaled(long x, int n, double scaled) {
        BigDecimal before = new BigDecimal(value(x));
        BigDecimal after = new BigDecimal(scaled);
        // Beyond 2200 powers nothing but 0 stays exact, so a smaller number tells the same.
        int powers = (int) Math.min(Math.abs((long) n), 2200);
        return n < 0 ? same(before, after.multiply(TWO.pow(powers))) : same(before.multiply(TWO.pow(powers)), after);
    }

    private static void reading(long x, long y) {
        BinaryFunctions object = Check.with(x, y);
        double a = value(x);
        double b = value(y);
        int order = a < b ? -1 : a > b ? 1 : a == b ? 0 : 2;
        Check.due("compare " + x + " with " + y, object.compare(0, 1), order);
        int exponent = !finite(x) ? Integer.MAX_VALUE : a == 0 ? Integer.MIN_VALUE : units(x).bitLength() - 1075;
        Check.due("exponent of " + x, object.exponent(0), exponent);
        int sort = Double.isNaN(a) ? 4 : Double.isInfinite(a) ? 3 : a == 0 ? 0 : Math.abs(a) < Double.MIN_NORMAL ? 1 : 2;
        Check.due("sort of " + x, object.sort(0), x < 0 ? sort + 8 : sort);
        Check.due("flags after reading", object.flags(), 0);
    }
}
