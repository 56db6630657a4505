/**
 * Exact helpers for floating-point numbers of 64 bits, worked out on their bits alone.
 *
 * A finite amount is handled throughout as significand * 2^power, both whole numbers. A significand
 * has at most 53 bits, so that every step, with the few bits it needs more, fits into a long.
 */
public final class BinaryFunctions {
    private static final int REGISTERS = 8;

    private static final int INVALID = 1;
    private static final int INEXACT = 2;
    private static final int OVERFLOW = 4;
    private static final int UNDERFLOW = 8;

    private static final int NEAREST = 0;
    private static final int DOWN = 1;
    private static final int UP = 2;
    private static final int TOWARDS_ZERO = 3;

    private static final int ZERO = 0;
    private static final int SMALL = 1;
    private static final int NORMAL = 2;
    private static final int INFINITE = 3;
    private static final int NAN = 4;
    private static final int NEGATIVE = 8;

    private static final int EXPONENT_OF_ZERO = -2147483648;
    private static final int EXPONENT_BEYOND = 2147483647;
    private static final int NOT_COMPARABLE = 2;
    private static final int NO_SORT = -1;

    private static final long SIGN_BIT = 0x8000000000000000L;
    private static final long AMOUNT_BITS = 0x7FFFFFFFFFFFFFFFL;
    private static final long INFINITY = 0x7FF0000000000000L;
    private static final long THE_NAN = 0x7FF8000000000000L;

    private static final int F_WIDTH = 52;
    private static final long LEADING_BIT = 0x0010000000000000L;
    private static final long F_BITS = 0x000FFFFFFFFFFFFFL;

    private static final int LEAST_POWER = -1074;
    private static final int GREATEST_POWER = 971;

    /** The bits of a long above a significand of full width. */
    private static final int SPARE_BITS = 11;

    /** A shift by this much leaves less than a half of any significand, as every greater one does. */
    private static final int SHIFT_TO_NOTHING = 60;

    /** One bit more than a significand has: the last one tells how to round. */
    private static final int ROOT_BITS = 54;

    /** What is left by a significand, of 53 bits at most, fits into a long when shifted by this much. */
    private static final int DIVISION_STEP = 10;

    private final long[] registers;
    private int raised;
    private int lastQuotient;

    public BinaryFunctions() {
        registers = new long[REGISTERS];
        raised = 0;
        lastQuotient = 0;
    }

    public boolean load(int r, long bits) {
        if (!isRegister(r)) {
            return false;
        }
        registers[r] = bits;
        return true;
    }

    public long bits(int r) {
        return isRegister(r) ? registers[r] : 0;
    }

    public boolean sqrt(int to, int from) {
        if (!isRegister(to) || !isRegister(from)) {
            return false;
        }
        registers[to] = squareRoot(registers[from]);
        return true;
    }

    public boolean whole(int to, int from, int how) {
        if (!isRegister(to) || !isRegister(from) || how < NEAREST || how > TOWARDS_ZERO) {
            return false;
        }
        registers[to] = madeWhole(registers[from], how);
        return true;
    }

    public boolean left(int to, int a, int b, boolean near) {
        if (!isRegister(to) || !isRegister(a) || !isRegister(b)) {
            return false;
        }
        registers[to] = remainder(registers[a], registers[b], near);
        return true;
    }

    public int quotient() {
        return lastQuotient;
    }

    public boolean neighbour(int to, int a, int b) {
        if (!isRegister(to) || !isRegister(a) || !isRegister(b)) {
            return false;
        }
        registers[to] = nextTowards(registers[a], registers[b]);
        return true;
    }

    public boolean scale(int to, int from, int n) {
        if (!isRegister(to) || !isRegister(from)) {
            return false;
        }
        registers[to] = timesPowerOfTwo(registers[from], n);
        return true;
    }

    public int exponent(int r) {
        if (!isRegister(r)) {
            return 0;
        }
        long x = registers[r];
        if (isZero(x)) {
            return EXPONENT_OF_ZERO;
        }
        if (isInfinity(x) || isNan(x)) {
            return EXPONENT_BEYOND;
        }
        return fullPower(x) + F_WIDTH;
    }

    public int compare(int a, int b) {
        if (!isRegister(a) || !isRegister(b) || isNan(registers[a]) || isNan(registers[b])) {
            return NOT_COMPARABLE;
        }
        long placeOfA = place(registers[a]);
        long placeOfB = place(registers[b]);
        if (placeOfA == placeOfB) {
            return 0;
        }
        return placeOfA < placeOfB ? -1 : 1;
    }

    public int sort(int r) {
        if (!isRegister(r)) {
            return NO_SORT;
        }
        long x = registers[r];
        return x < 0 ? sortOfAmount(x) + NEGATIVE : sortOfAmount(x);
    }

    public int flags() {
        return raised;
    }

    public void clear() {
        raised = 0;
    }

    private static boolean isRegister(int r) {
        return r >= 0 && r < REGISTERS;
    }

    private void raise(int someFlags) {
        raised |= someFlags;
    }

    private static boolean isZero(long x) {
        return (x & AMOUNT_BITS) == 0;
    }

    private static boolean isInfinity(long x) {
        return (x & AMOUNT_BITS) == INFINITY;
    }

    private static boolean isNan(long x) {
        return (x & AMOUNT_BITS) > INFINITY;
    }

    private static long signOf(long x) {
        return x & SIGN_BIT;
    }

    private static int sortOfAmount(long x) {
        if (isZero(x)) {
            return ZERO;
        }
        if (isInfinity(x)) {
            return INFINITE;
        }
        if (isNan(x)) {
            return NAN;
        }
        return (x & AMOUNT_BITS) < LEADING_BIT ? SMALL : NORMAL;
    }

    private static int fieldE(long x) {
        return (int) ((x & AMOUNT_BITS) >> F_WIDTH);
    }

    private static long significand(long x) {
        long f = x & F_BITS;
        return fieldE(x) == 0 ? f : LEADING_BIT + f;
    }

    private static int power(long x) {
        return Math.max(fieldE(x), 1) - 1 + LEAST_POWER;
    }

    /** How far the significand of x, which is not 0, can be shifted until it has its full width. */
    private static int spareRoom(long x) {
        return Long.numberOfLeadingZeros(significand(x)) - SPARE_BITS;
    }

    private static long fullSignificand(long x) {
        return significand(x) << spareRoom(x);
    }

    /** The power that belongs to fullSignificand: for a SMALL x it is below LEAST_POWER. */
    private static int fullPower(long x) {
        return power(x) - spareRoom(x);
    }

    /**
     * The pattern with the SIGN 0 and the amount significand * 2^power, for a significand below 2^53
     * and a power from LEAST_POWER to GREATEST_POWER: there is always one.
     */
    private static long pattern(long significand, int power) {
        if (significand == 0) {
            return 0;
        }
        int room = Long.numberOfLeadingZeros(significand) - SPARE_BITS;
        int shift = Math.min(room, power - LEAST_POWER);
        // The leading bit of a NORMAL significand carries into E, which is why E counts from 0 here.
        return ((long) (power - shift - LEAST_POWER) << F_WIDTH) + (significand << shift);
    }

    /** amount / 2^shift made whole, to the nearest and of two to the even one; shift is 1 to 60. */
    private static long nearestShifted(long amount, int shift) {
        long kept = amount >> shift;
        long lost = amount - (kept << shift);
        long half = 1L << (shift - 1);
        boolean upwards = lost > half || (lost == half && (kept & 1) == 1);
        return upwards ? kept + 1 : kept;
    }

    private long squareRoot(long x) {
        if (isNan(x)) {
            return THE_NAN;
        }
        if (isZero(x) || x == INFINITY) {
            return x;
        }
        if (x < 0) {
            raise(INVALID);
            return THE_NAN;
        }
        return rootOfPositive(x);
    }

    private long rootOfPositive(long x) {
        // Only an even power can be halved, so an odd one gives a factor 2 to the significand.
        int odd = fullPower(x) & 1;
        int halfPower = (fullPower(x) - odd) / 2;
        long digits = fullSignificand(x) << (SPARE_BITS - 1 + odd);
        long root = 0;
        long rest = 0;
        // The root by hand, two bits of the radicand for one of the root; behind them come zeros.
        for (int i = 0; i < ROOT_BITS; i++) {
            rest = (rest << 2) + (digits >>> 62);
            digits <<= 2;
            long trial = (root << 2) + 1;
            root <<= 1;
            if (rest >= trial) {
                rest -= trial;
                root++;
            }
        }
        // A root with an odd last bit always has a rest, so that no root lies just between two.
        long lastBit = root & 1;
        if (lastBit != 0 || rest != 0) {
            raise(INEXACT);
        }
        return pattern((root >> 1) + lastBit, halfPower - F_WIDTH / 2);
    }

    private long madeWhole(long x, int how) {
        if (isNan(x)) {
            return THE_NAN;
        }
        if (isZero(x) || isInfinity(x) || power(x) >= 0) {
            return x;
        }
        int shift = Math.min(-power(x), SHIFT_TO_NOTHING);
        long result = signOf(x) | pattern(wholeAmount(significand(x), shift, x < 0, how), 0);
        if (how == NEAREST && result != x) {
            raise(INEXACT);
        }
        return result;
    }

    private static long wholeAmount(long significand, int shift, boolean negative, int how) {
        if (how == NEAREST) {
            return nearestShifted(significand, shift);
        }
        long kept = significand >> shift;
        boolean awayFromZero = (how == DOWN && negative) || (how == UP && !negative);
        return awayFromZero && (kept << shift) != significand ? kept + 1 : kept;
    }

    private long remainder(long x, long y, boolean near) {
        lastQuotient = 0;
        if (isNan(x) || isNan(y)) {
            return THE_NAN;
        }
        if (isInfinity(x) || isZero(y)) {
            raise(INVALID);
            return THE_NAN;
        }
        if (isInfinity(y) || isZero(x)) {
            return x;
        }
        int distance = power(x) - power(y);
        // Then y is NORMAL and x less than half of it: n is 0.
        if (distance < -1) {
            return x;
        }
        return remainderOfFinite(x, y, distance, near);
    }

    /**
     * For finite x and y that are no zeros, with distance the power of x less that of y, at least -1.
     * As y is no zero, the divisor is at least 1.
     */
    private long remainderOfFinite(long x, long y, int distance, boolean near) {
        long divisor = significand(y) << Math.max(-distance, 0);
        int power = Math.min(power(x), power(y));
        // Of n only the last bits are asked for, so those that go beyond a long may be lost. The loop
        // runs only with a distance above 0, when the divisor is the significand of y as it is.
        long n = significand(x) / divisor;
        long rest = significand(x) % divisor;
        for (int open = distance; open > 0; open -= DIVISION_STEP) {
            int step = Math.min(open, DIVISION_STEP);
            long dividend = rest << step;
            n = (n << step) + dividend / divisor;
            rest = dividend % divisor;
        }
        long sign = signOf(x);
        long doubled = rest << 1;
        if (near && (doubled > divisor || (doubled == divisor && (n & 1) == 1))) {
            n++;
            rest = divisor - rest;
            sign ^= SIGN_BIT;
        }
        lastQuotient = (int) (n & 7);
        return sign | pattern(rest, power);
    }

    /** The place of x, which is no NAN, on the line of all patterns, with both zeros at 0. */
    private static long place(long x) {
        return x < 0 ? -(x & AMOUNT_BITS) : x;
    }

    private static long nextTowards(long x, long y) {
        if (isNan(x) || isNan(y)) {
            return THE_NAN;
        }
        if (place(x) == place(y)) {
            return x;
        }
        long next = place(x) < place(y) ? place(x) + 1 : place(x) - 1;
        if (next == 0) {
            return signOf(x);
        }
        return next < 0 ? SIGN_BIT | -next : next;
    }

    private long timesPowerOfTwo(long x, int n) {
        if (isNan(x)) {
            return THE_NAN;
        }
        if (isZero(x) || isInfinity(x)) {
            return x;
        }
        // As a long, since the sum may lie outside of an int.
        long power = (long) fullPower(x) + n;
        if (power > GREATEST_POWER) {
            raise(INEXACT | OVERFLOW);
            return signOf(x) | INFINITY;
        }
        if (power >= LEAST_POWER) {
            return signOf(x) | pattern(fullSignificand(x), (int) power);
        }
        int shift = (int) Math.min(LEAST_POWER - power, SHIFT_TO_NOTHING);
        return signOf(x) | roundedToLeastPower(fullSignificand(x), shift);
    }

    private long roundedToLeastPower(long significand, int shift) {
        long kept = nearestShifted(significand, shift);
        if ((kept << shift) != significand) {
            raise(kept < LEADING_BIT ? INEXACT | UNDERFLOW : INEXACT);
        }
        return pattern(kept, LEAST_POWER);
    }
}
