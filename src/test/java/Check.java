/** What the tests share: counting wrong answers, and the state of an object as one text. */
final class Check {
    static final long THE_NAN = 9221120237041090560L;
    static final long INFINITY = 9218868437227405312L;
    static final long GREATEST = INFINITY - 1;
    static final long LEAST_NORMAL = 1L << 52;
    static final long MINUS = Long.MIN_VALUE;

    static final int INVALID = 1;
    static final int INEXACT = 2;
    static final int OVERFLOW = 4;
    static final int UNDERFLOW = 8;

    static final int[] NO_REGISTERS = {-1, 8, 9, 16, 256, -8, Integer.MIN_VALUE, Integer.MAX_VALUE};

    /** NANs of both signs, at the edges of F. */
    static final long[] NANS = {INFINITY + 1, THE_NAN, Long.MAX_VALUE, MINUS | (INFINITY + 1), MINUS | THE_NAN, -1L};

    private static int wrong = 0;

    private Check() {
    }

    static void due(String call, long got, long want) {
        if (got != want) {
            wrong++;
            System.out.println(call + " answered " + got + ", due is " + want);
        }
    }

    static void due(String call, boolean got, boolean want) {
        due(call, got ? 1 : 0, want ? 1 : 0);
    }

    static void due(String call, String got, String want) {
        if (!got.equals(want)) {
            wrong++;
            System.out.println(call + " gave " + got + ", due is " + want);
        }
    }

    /** Ends the test: exit code 1 if an answer was wrong. */
    static void finish(String test) {
        System.out.println(test + ": " + (wrong == 0 ? "all answers are as due" : wrong + " answers are not as due"));
        if (wrong != 0) {
            System.exit(1);
        }
    }

    static long of(double value) {
        return Double.doubleToRawLongBits(value);
    }

    static BinaryFunctions with(long first, long second) {
        BinaryFunctions x = new BinaryFunctions();
        x.load(0, first);
        x.load(1, second);
        return x;
    }

    static String state(BinaryFunctions x) {
        StringBuilder text = new StringBuilder();
        for (int r = 0; r < 8; r++) {
            text.append(x.bits(r)).append(' ');
        }
        return text.append("flags ").append(x.flags()).append(" quotient ").append(x.quotient()).toString();
    }
}
