import java.util.function.Predicate;

/** What the tests share: a test for each sentence of the document, and the counting of wrong answers. */
final class Check {
    static final long THE_NAN = 9221120237041090560L;
    static final long INFINITY = 9218868437227405312L;
    static final long GREATEST = INFINITY - 1;
    static final long LEAST_NORMAL = 1L << 52;
    static final long MINUS = Long.MIN_VALUE;
    static final long MINUS_INFINITY = MINUS | INFINITY;

    static final int INVALID = 1;
    static final int INEXACT = 2;
    static final int OVERFLOW = 4;
    static final int UNDERFLOW = 8;

    /** Beside the nearest ones, those that would pass for 0 .. 7 if only some of their bits were looked at. */
    static final int[] NO_REGISTERS = {-1, 8, 9, -8, 16, 256, 65536, Integer.MIN_VALUE, Integer.MAX_VALUE};

    /** NANs of both signs, at the edges of F. */
    static final long[] NANS = {INFINITY + 1, THE_NAN - 1, THE_NAN, THE_NAN + 1, Long.MAX_VALUE,
        MINUS | (INFINITY + 1), MINUS | THE_NAN, -1L};

    /** No NANs; of both signs, at the edges of all sorts. */
    static final long[] NUMBERS = {0, 1, LEAST_NORMAL - 1, LEAST_NORMAL, of(1), of(2.5), GREATEST, INFINITY,
        MINUS, MINUS | 1, MINUS | (LEAST_NORMAL - 1), MINUS | LEAST_NORMAL, of(-1), of(-2.5), MINUS | GREATEST, MINUS_INFINITY};

    /** What the registers of used() have. */
    static final double[] USED = {7.5, 2, -3.25, 1e300, -1, 1.5, 0.1, 5};

    static final int USED_QUOTIENT = 3;

    private static int wrong = 0;
    private static int looks = 0;
    private static int sentences = 0;
    private static String current = "";

    private Check() {
    }

    /** Runs the test of one sentence, given in the words of the document; it must look at something. */
    static void sentence(String where, String words, Runnable test) {
        current = where + ", \"" + words + "\": ";
        int before = looks;
        test.run();
        sentences++;
        if (looks == before) {
            tellWrong("nothing was looked at");
        }
        current = "";
    }

    static void due(String call, long got, long want) {
        looks++;
        if (got != want) {
            tellWrong(call + " answered " + got + ", due is " + want);
        }
    }

    static void due(String call, boolean got, boolean want) {
        due(call, got ? 1 : 0, want ? 1 : 0);
    }

    static void due(String call, String got, String want) {
        looks++;
        if (!got.equals(want)) {
            tellWrong(call + " gave " + got + ", due is " + want);
        }
    }

    private static void tellWrong(String text) {
        wrong++;
        System.out.println(current + text);
    }

    /** Ends the test: exit code 1 if an answer was wrong. */
    static void finish(String test) {
        String result = wrong == 0 ? "all answers are as due" : wrong + " answers are not as due";
        String tested = sentences == 0 ? "" : sentences + " sentences, ";
        System.out.println(test + ": " + tested + looks + " looks, " + result);
        if (wrong != 0) {
            System.exit(1);
        }
    }

    static long of(double value) {
        return Double.doubleToRawLongBits(value);
    }

    /** The pattern of a result that Java has worked out. */
    static long result(double value) {
        return Double.isNaN(value) ? THE_NAN : of(value);
    }

    /** 2^k, for k from -1074 to 1023. */
    static long powerOfTwo(int k) {
        return of(Math.scalb(1.0, k));
    }

    static BinaryFunctions with(long first, long second) {
        BinaryFunctions x = new BinaryFunctions();
        x.load(0, first);
        x.load(1, second);
        return x;
    }

    /** An object in which nothing is as in a new one: every register, all four flags, the quotient. */
    static BinaryFunctions used() {
        BinaryFunctions x = withAllFlags();
        for (int r = 0; r < 8; r++) {
            x.load(r, of(USED[r]));
        }
        x.left(5, 0, 1, false);
        return x;
    }

    static BinaryFunctions withAllFlags() {
        BinaryFunctions x = new BinaryFunctions();
        x.load(0, of(-1));
        x.sqrt(1, 0);
        x.load(0, GREATEST);
        x.scale(1, 0, 1);
        x.load(0, 1);
        x.scale(1, 0, -1);
        return x;
    }

    static String state(BinaryFunctions x) {
        StringBuilder text = new StringBuilder();
        for (int r = 0; r < 8; r++) {
            text.append(x.bits(r)).append(' ');
        }
        return text.append("flags ").append(x.flags()).append(" quotient ").append(x.quotient()).toString();
    }

    /** The call must answer false and change nothing, neither with all flags set nor with none. */
    static void refused(String call, Predicate<BinaryFunctions> made) {
        for (boolean flagged : new boolean[] {true, false}) {
            BinaryFunctions x = used();
            if (!flagged) {
                x.clear();
            }
            String before = state(x);
            due(call, made.test(x), false);
            due("state after " + call, state(x), before);
        }
    }

    /** The call must answer true, give register to the pattern want, and leave all others as they were. */
    static void accepted(String call, Predicate<BinaryFunctions> made, int to, long want) {
        BinaryFunctions x = used();
        due(call, made.test(x), true);
        for (int r = 0; r < 8; r++) {
            due("bits(" + r + ") after " + call, x.bits(r), r == to ? want : of(USED[r]));
        }
    }
}
