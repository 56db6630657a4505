/** Terms: what a pattern is, and how a real number is rounded to one. */
public final class PatternTest {
    private static final String TERMS = "Terms";
    private static final long ALL_OF_F = Check.LEAST_NORMAL - 1;
    private static final int LOST_BELOW = Check.INEXACT | Check.UNDERFLOW;
    private static final int LOST_ABOVE = Check.INEXACT | Check.OVERFLOW;

    private PatternTest() {
    }

    public static void main(String[] args) {
        Check.sentence(TERMS, "Its SIGN is bit 63 (1: negative), E its bits 52 .. 62 as a number 0 .. 2047, F its bits 0 .. 51",
            PatternTest::singleBits);
        Check.sentence(TERMS, "With E = 2047 it is an INFINITY when F is 0, otherwise a NAN.",
            PatternTest::greatestE);
        Check.sentence(TERMS, "with E = 0 the AMOUNT is F * 2^-1074 (a ZERO when F is 0, otherwise SMALL)",
            PatternTest::leastE);
        Check.sentence(TERMS, "with E = 1 .. 2046 it is (2^52 + F) * 2^(E - 1075) (NORMAL).",
            PatternTest::everyOtherE);
        Check.sentence(TERMS, "The VALUE of a finite pattern is its amount, negative when the SIGN is 1.",
            PatternTest::negativeValues);
        Check.sentence(TERMS, "So there are two zeros, which differ by the SIGN alone.",
            PatternTest::twoZeros);
        Check.sentence(TERMS, "when its amount is (2^54 - 1) * 2^970 or more, the infinity with the sign of v",
            PatternTest::tooLarge);
        Check.sentence(TERMS, "otherwise the finite pattern with the sign of v whose amount is nearest to that of v",
            PatternTest::nearest);
        Check.sentence(TERMS, "of two that are equally near the one whose F is even",
            PatternTest::equallyNear);
        Check.sentence(TERMS, "It is EXACT when it is a finite pattern whose value is v.",
            PatternTest::exact);
        Check.sentence(TERMS, "THE NAN is the pattern 9221120237041090560 (SIGN 0, E = 2047, F = 2^51).",
            PatternTest::theNan);
        Check.finish("PatternTest");
    }

    private static void sort(long pattern, int want) {
        BinaryFunctions x = Check.with(pattern, Check.MINUS | pattern);
        Check.due("sort of " + pattern, x.sort(0), want);
        Check.due("sort of the negative " + pattern, x.sort(1), want + 8);
    }

    /** Scales both signs of x by n. */
    private static void scaled(long x, int n, long want, int flags) {
        for (long sign : new long[] {0, Check.MINUS}) {
            BinaryFunctions object = Check.with(sign | x, 77);
            object.scale(1, 0, n);
            String call = "scale of " + (sign | x) + " by " + n;
            Check.due("bits after " + call, object.bits(1), sign | want);
            Check.due("flags after " + call, object.flags(), flags);
        }
    }

    private static void singleBits() {
        for (int bit = 0; bit < 52; bit++) {
            sort(1L << bit, 1);
            scaled(1L << bit, 0, Check.powerOfTwo(bit - 1074), 0);
        }
        for (int bit = 52; bit < 63; bit++) {
            sort(1L << bit, 2);
            scaled(1L << bit, 0, Check.powerOfTwo((1 << (bit - 52)) - 1023), 0);
        }
        Check.due("sort of bit 63 alone", Check.with(1L << 63, 0).sort(0), 8);
    }

    private static void greatestE() {
        sort(Check.INFINITY, 3);
        for (int bit = 0; bit < 52; bit++) {
            sort(Check.INFINITY | 1L << bit, 4);
            sort(Check.INFINITY | ALL_OF_F ^ 1L << bit, 4);
        }
        sort(Check.INFINITY | ALL_OF_F, 4);
        sort(Check.INFINITY - 1, 2);
    }

    private static void leastE() {
        sort(0, 0);
        for (int bit = 0; bit < 52; bit++) {
            amountOfSmall(1L << bit);
            amountOfSmall(ALL_OF_F ^ 1L << bit);
        }
        amountOfSmall(ALL_OF_F);
    }

    private static void amountOfSmall(long f) {
        sort(f, 1);
        scaled(f, 1074, Check.of((double) f), 0);
    }

    private static void everyOtherE() {
        for (int e = 1; e <= 2046; e++) {
            for (long f : new long[] {0, 1, 1L << 51, ALL_OF_F}) {
                long pattern = ((long) e << 52) + f;
                sort(pattern, 2);
                scaled(pattern, 1075 - e, Check.of((double) (Check.LEAST_NORMAL + f)), 0);
            }
        }
    }

    private static void negativeValues() {
        for (long amount : new long[] {1, ALL_OF_F, Check.LEAST_NORMAL, Check.of(1), Check.GREATEST}) {
            BinaryFunctions x = Check.with(amount, Check.MINUS | amount);
            Check.due("compare " + amount + " with its negative", x.compare(0, 1), 1);
            Check.due("compare the negative of " + amount + " with it", x.compare(1, 0), -1);
            Check.due("compare the negative of " + amount + " with 0", x.compare(1, 2), -1);
            Check.due("exponent of the negative of " + amount, x.exponent(1), x.exponent(0));
        }
    }

    private static void twoZeros() {
        BinaryFunctions x = Check.with(0, Check.MINUS);
        Check.due("bits of the zero with the SIGN 0", x.bits(0), 0);
        Check.due("bits of the zero with the SIGN 1", x.bits(1), Long.MIN_VALUE);
        Check.due("sort of the zero with the SIGN 0", x.sort(0), 0);
        Check.due("sort of the zero with the SIGN 1", x.sort(1), 8);
        Check.due("compare the zeros", x.compare(0, 1), 0);
        Check.due("compare the zeros the other way", x.compare(1, 0), 0);
    }

    /**
     * (2^54 - 1) * 2^970 itself has one bit more than a pattern, so no call comes upon it; the nearest
     * amounts that calls come upon are that of GREATEST below it and 2^1024 above it.
     */
    private static void tooLarge() {
        scaled(Check.of(2) - 1, 1023, Check.GREATEST, 0);
        scaled(Check.of(1), 1024, Check.INFINITY, LOST_ABOVE);
        scaled(Check.powerOfTwo(1023), 1, Check.INFINITY, LOST_ABOVE);
        scaled(Check.powerOfTwo(1022), 1, Check.powerOfTwo(1023), 0);
        scaled(Check.GREATEST, 0, Check.GREATEST, 0);
        scaled(Check.GREATEST, 1, Check.INFINITY, LOST_ABOVE);
        scaled(ALL_OF_F, 2046, Check.GREATEST - 1, 0);
        scaled(ALL_OF_F, 2047, Check.INFINITY, LOST_ABOVE);
        scaled(1, 2097, Check.powerOfTwo(1023), 0);
        scaled(1, 2098, Check.INFINITY, LOST_ABOVE);
    }

    private static void nearest() {
        // A quarter, a half and a bit, three quarters behind the last bit of F.
        scaled(5, -2, 1, LOST_BELOW);
        scaled(7, -2, 2, LOST_BELOW);
        scaled(9, -2, 2, LOST_BELOW);
        scaled(11, -2, 3, LOST_BELOW);
        // Just below and just above the half between two patterns, with all bits of a significand.
        for (long f = 0; f < 6; f++) {
            long half = Check.of(f + 0.5);
            scaled(half - 1, -1074, f, LOST_BELOW);
            scaled(half + 1, -1074, f + 1, LOST_BELOW);
        }
        // Between 2^51 and the amount before it; between greater SMALL ones there are but the halves.
        scaled(Check.of(8) - 1, -1026, Check.LEAST_NORMAL / 2, LOST_BELOW);
        scaled(Check.of(8) - 3, -1026, Check.LEAST_NORMAL / 2 - 1, LOST_BELOW);
    }

    private static void equallyNear() {
        for (long f = 0; f < 100; f++) {
            scaled(2 * f + 1, -1, f % 2 == 0 ? f : f + 1, LOST_BELOW);
        }
        // 0 has an even F, so half of the least amount is rounded to it, whatever it is made from.
        scaled(1, -1, 0, LOST_BELOW);
        scaled(Check.of(1), -1075, 0, LOST_BELOW);
        scaled(Check.powerOfTwo(1023), -2098, 0, LOST_BELOW);
        // Between F = 2^52 - 1 with E = 0 and F = 0 with E = 1.
        scaled(2 * Check.LEAST_NORMAL - 1, -1, Check.LEAST_NORMAL, Check.INEXACT);
        scaled(2 * Check.LEAST_NORMAL - 3, -1, ALL_OF_F - 1, LOST_BELOW);
        scaled(Check.LEAST_NORMAL + 1, -1, Check.LEAST_NORMAL / 2, LOST_BELOW);
    }

    private static void exact() {
        scaled(2, -1, 1, 0);
        scaled(Check.of(1), -1074, 1, 0);
        scaled(Check.of(2) - 2, -1023, ALL_OF_F, 0);
        scaled(Check.LEAST_NORMAL, -52, 1, 0);
        scaled(Check.LEAST_NORMAL, -53, 0, LOST_BELOW);
        // An infinity is no finite pattern, so it is never exact.
        scaled(Check.powerOfTwo(1023), 1, Check.INFINITY, LOST_ABOVE);
        BinaryFunctions x = Check.with(Check.of(4), Check.of(5));
        x.sqrt(2, 0);
        Check.due("flags after sqrt of 4", x.flags(), 0);
        x.sqrt(2, 1);
        Check.due("flags after sqrt of 5", x.flags(), Check.INEXACT);
    }

    private static void theNan() {
        Check.due("THE NAN", (2047L << 52) + (1L << 51), 9221120237041090560L);
        for (long nan : Check.NANS) {
            BinaryFunctions x = Check.with(nan, Check.of(1));
            x.sqrt(2, 0);
            x.whole(3, 0, 1);
            x.left(4, 0, 1, false);
            x.neighbour(5, 1, 0);
            x.scale(6, 0, 1);
            for (int r = 2; r < 7; r++) {
                Check.due("result " + r + " from the NAN " + nan, x.bits(r), 9221120237041090560L);
            }
            Check.due("the NAN that was loaded", x.bits(0), nan);
        }
    }
}
