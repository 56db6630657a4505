import java.util.function.Consumer;

/**
 * Terms about registers, flags, quotient and refused calls, and promises 1 (a new object), 2 (load),
 * 3 (bits), 7 (quotient), 13 (flags) and 14 (clear).
 */
public final class StateTest {
    private static final String TERMS = "Terms";
    private static final String NEW_STATE = "0 0 0 0 0 0 0 0 flags 0 quotient 0";

    private StateTest() {
    }

    public static void main(String[] args) {
        Check.sentence("What it is", "An object is used for at most 512 calls after it has been made",
            StateTest::fullLife);
        terms();
        Check.sentence("Promise 1", "All registers have the pattern 0, no flag is set, the quotient is 0.",
            StateTest::newObject);
        Check.sentence("Promise 2", "Register r gets the pattern bits.", StateTest::load);
        Check.sentence("Promise 2", "Answers true; refused with false when r is not 0 .. 7.", StateTest::loadRefused);
        Check.sentence("Promise 3", "The pattern in register r", StateTest::bits);
        Check.sentence("Promise 3", "0 when r is not 0 .. 7.", StateTest::bitsOfNoRegister);
        Check.sentence("Promise 7", "The quotient.", StateTest::quotient);
        Check.sentence("Promise 13", "The sum of the numbers of the flags that are set.", StateTest::flags);
        Check.sentence("Promise 14", "No flag is set any more.", StateTest::clear);
        Check.finish("StateTest");
    }

    private static void terms() {
        Check.sentence(TERMS, "There are REGISTERS 0 .. 7, each with a pattern", StateTest::registersAreApart);
        Check.sentence(TERMS, "four FLAGS, whose numbers are 1 INVALID, 2 INEXACT, 4 OVERFLOW, 8 UNDERFLOW",
            StateTest::numbersOfFlags);
        Check.sentence(TERMS, "a flag that is set stays set until clear()", StateTest::flagsStay);
        Check.sentence(TERMS, "The QUOTIENT is a number 0 .. 7.", StateTest::quotientWraps);
        Check.sentence(TERMS, "A call whose register numbers are not all 0 .. 7", StateTest::severalWrongNumbers);
        Check.sentence(TERMS, "or that is refused for another reason, changes nothing.", StateTest::wrongHow);
        Check.sentence(TERMS, "The register that gets a result may be one of those whose patterns are used",
            StateTest::resultReplaces);
        Check.sentence(TERMS, "the result is worked out from what they had before.", StateTest::resultReplacesAll);
    }

    private static void fullLife() {
        BinaryFunctions walker = new BinaryFunctions();
        walker.load(0, Check.INFINITY);
        for (int call = 2; call <= 510; call++) {
            Check.due("neighbour as call " + call, walker.neighbour(1, 1, 0), true);
        }
        Check.due("bits as call 511", walker.bits(1), 509);
        Check.due("flags as call 512", walker.flags(), 0);

        BinaryFunctions keeper = Check.with(Check.of(13), Check.of(-2));
        keeper.left(2, 0, 1, false);
        keeper.sqrt(3, 1);
        for (int call = 5; call <= 509; call++) {
            Check.due("sqrt as call " + call, keeper.sqrt(4, 0), true);
        }
        Check.due("quotient as call 510", keeper.quotient(), 6);
        Check.due("flags as call 511", keeper.flags(), Check.INVALID | Check.INEXACT);
        Check.due("bits as call 512", keeper.bits(4), Check.of(Math.sqrt(13)));
    }

    private static void registersAreApart() {
        for (int r = 0; r < 8; r++) {
            BinaryFunctions x = new BinaryFunctions();
            x.load(r, -1);
            for (int other = 0; other < 8; other++) {
                Check.due("bits(" + other + ") after load of " + r, x.bits(other), other == r ? -1 : 0);
            }
        }
        BinaryFunctions used = Check.used();
        Check.with(1, 2).scale(0, 0, -1);
        Check.due("another object", Check.state(used), Check.state(Check.used()));
    }

    /** Makes one call on a new object whose registers have -1, 2, the least and the greatest amount. */
    private static BinaryFunctions after(Consumer<BinaryFunctions> call) {
        BinaryFunctions x = Check.with(Check.of(-1), Check.of(2));
        x.load(2, 1);
        x.load(3, Check.GREATEST);
        call.accept(x);
        return x;
    }

    private static void numbersOfFlags() {
        Check.due("flags after sqrt of -1", after(x -> x.sqrt(7, 0)).flags(), 1);
        Check.due("flags after left by 0", after(x -> x.left(7, 0, 4, true)).flags(), 1);
        Check.due("flags after sqrt of 2", after(x -> x.sqrt(7, 1)).flags(), 2);
        Check.due("flags after whole of the least amount", after(x -> x.whole(7, 2, 0)).flags(), 2);
        Check.due("flags after the greatest amount times 2", after(x -> x.scale(7, 3, 1)).flags(), 2 + 4);
        Check.due("flags after half of the least amount", after(x -> x.scale(7, 2, -1)).flags(), 2 + 8);
    }

    /** Every kind of call, with no wrong number and none that sets a flag. */
    private static void callsWithoutFlags(BinaryFunctions x) {
        x.load(5, Check.of(9));
        x.bits(5);
        x.sqrt(6, 5);
        x.whole(6, 5, 0);
        x.left(6, 5, 1, true);
        x.quotient();
        x.neighbour(6, 5, 1);
        x.scale(6, 5, 1);
        x.exponent(5);
        x.compare(5, 1);
        x.sort(5);
        x.flags();
    }

    private static void callsThatAreRefused(BinaryFunctions x) {
        x.load(8, 9);
        x.bits(-1);
        x.sqrt(8, 0);
        x.whole(6, 5, 4);
        x.left(6, -1, 1, true);
        x.neighbour(6, 5, 8);
        x.scale(-1, 3, 1);
        x.exponent(8);
        x.compare(5, -1);
        x.sort(8);
    }

    private static void flagsStay() {
        staySet("INVALID", after(x -> x.sqrt(7, 0)), 1);
        staySet("INEXACT", after(x -> x.sqrt(7, 1)), 2);
        staySet("OVERFLOW", after(x -> x.scale(7, 3, 1)), 6);
        staySet("UNDERFLOW", after(x -> x.scale(7, 2, -1)), 10);
        staySet("all", after(StateTest::raiseAll), 15);
    }

    private static void raiseAll(BinaryFunctions x) {
        x.sqrt(7, 0);
        x.scale(7, 3, 1);
        x.scale(7, 2, -1);
    }

    private static void staySet(String name, BinaryFunctions x, int flags) {
        Check.due(name + " set", x.flags(), flags);
        callsWithoutFlags(x);
        Check.due(name + " after calls that set no flag", x.flags(), flags);
        callsThatAreRefused(x);
        Check.due(name + " after refused calls", x.flags(), flags);
        x.clear();
        Check.due(name + " after clear", x.flags(), 0);
        callsWithoutFlags(x);
        callsThatAreRefused(x);
        Check.due(name + " does not come back", x.flags(), 0);
    }

    private static void quotientWraps() {
        for (int n = 0; n < 40; n++) {
            BinaryFunctions x = Check.with(Check.of(3.0 * n + 1), Check.of(3));
            x.left(2, 0, 1, false);
            Check.due("quotient of " + n, x.quotient(), n % 8);
        }
    }

    /** Each promise has its own test with one wrong number; here all are wrong at once. */
    private static void severalWrongNumbers() {
        for (int bad : Check.NO_REGISTERS) {
            Check.refused("sqrt both " + bad, x -> x.sqrt(bad, bad));
            Check.refused("whole both " + bad, x -> x.whole(bad, bad, 0));
            Check.refused("whole all " + bad, x -> x.whole(bad, bad, bad));
            Check.refused("left all " + bad, x -> x.left(bad, bad, bad, true));
            Check.refused("left a and b " + bad, x -> x.left(0, bad, bad, false));
            Check.refused("left to and a " + bad, x -> x.left(bad, bad, 0, false));
            Check.refused("left to and b " + bad, x -> x.left(bad, 0, bad, false));
            Check.refused("neighbour all " + bad, x -> x.neighbour(bad, bad, bad));
            Check.refused("scale both " + bad, x -> x.scale(bad, bad, 1));
        }
        BinaryFunctions x = Check.used();
        String before = Check.state(x);
        for (int bad : Check.NO_REGISTERS) {
            x.bits(bad);
            x.exponent(bad);
            x.compare(bad, bad);
            x.compare(0, bad);
            x.sort(bad);
        }
        Check.due("after reading no registers", Check.state(x), before);
    }

    private static void wrongHow() {
        for (int how : new int[] {-1, 4, 5, 8, 256, Integer.MIN_VALUE, Integer.MAX_VALUE}) {
            Check.refused("whole of 0.1 how " + how, x -> x.whole(6, 6, how));
            Check.refused("whole of -3.25 how " + how, x -> x.whole(0, 2, how));
        }
    }

    private static void resultReplaces() {
        Check.accepted("sqrt(7, 7)", x -> x.sqrt(7, 7), 7, Check.of(Math.sqrt(5)));
        Check.accepted("whole(2, 2, 1)", x -> x.whole(2, 2, 1), 2, Check.of(-4));
        Check.accepted("left(0, 0, 1, true)", x -> x.left(0, 0, 1, true), 0, Check.of(-0.5));
        Check.accepted("left(1, 0, 1, true)", x -> x.left(1, 0, 1, true), 1, Check.of(-0.5));
        Check.accepted("left(0, 0, 1, false)", x -> x.left(0, 0, 1, false), 0, Check.of(1.5));
        Check.accepted("left(1, 0, 1, false)", x -> x.left(1, 0, 1, false), 1, Check.of(1.5));
        Check.accepted("neighbour(0, 0, 1)", x -> x.neighbour(0, 0, 1), 0, Check.of(7.5) - 1);
        Check.accepted("neighbour(1, 0, 1)", x -> x.neighbour(1, 0, 1), 1, Check.of(7.5) - 1);
        Check.accepted("scale(2, 2, 2)", x -> x.scale(2, 2, 2), 2, Check.of(-13));
    }

    private static void resultReplacesAll() {
        Check.accepted("left(2, 2, 2, false)", x -> x.left(2, 2, 2, false), 2, Check.MINUS);
        Check.accepted("left(2, 2, 2, true)", x -> x.left(2, 2, 2, true), 2, Check.MINUS);
        Check.accepted("left(1, 2, 2, true)", x -> x.left(1, 2, 2, true), 1, Check.MINUS);
        Check.accepted("neighbour(3, 3, 3)", x -> x.neighbour(3, 3, 3), 3, Check.of(1e300));
        Check.accepted("neighbour(4, 3, 3)", x -> x.neighbour(4, 3, 3), 4, Check.of(1e300));
        BinaryFunctions x = Check.used();
        x.left(2, 2, 2, true);
        Check.due("quotient of a register by itself", x.quotient(), 1);
    }

    private static void newObject() {
        BinaryFunctions x = new BinaryFunctions();
        Check.due("new", Check.state(x), NEW_STATE);
        Check.due("new, asked again", Check.state(x), NEW_STATE);
        Check.used();
        Check.due("new after another was used", Check.state(new BinaryFunctions()), NEW_STATE);
    }

    private static void load() {
        long[] patterns = {1, -1, Check.MINUS, Long.MAX_VALUE, Check.INFINITY, Check.INFINITY + 1, 0x123456789ABCDEFL, 0};
        BinaryFunctions x = new BinaryFunctions();
        for (int round = 0; round < 8; round++) {
            for (int r = 0; r < 8; r++) {
                x.load(r, patterns[(r + round) % 8]);
            }
            for (int r = 0; r < 8; r++) {
                Check.due("bits(" + r + ") in round " + round, x.bits(r), patterns[(r + round) % 8]);
            }
        }
        Check.due("flags after load", x.flags(), 0);
        BinaryFunctions used = Check.used();
        used.load(3, Check.THE_NAN);
        Check.due("flags after load of a NAN", used.flags(), 15);
        Check.due("quotient after load", used.quotient(), Check.USED_QUOTIENT);
    }

    private static void loadRefused() {
        for (int r = 0; r < 8; r++) {
            int good = r;
            Check.accepted("load(" + r + ", 77)", x -> x.load(good, 77), r, 77);
        }
        for (int bad : Check.NO_REGISTERS) {
            Check.refused("load(" + bad + ", 77)", x -> x.load(bad, 77));
        }
    }

    private static void bits() {
        BinaryFunctions x = new BinaryFunctions();
        for (long nan : Check.NANS) {
            x.load(3, nan);
            Check.due("bits of a NAN", x.bits(3), nan);
            Check.due("bits of a NAN, asked again", x.bits(3), nan);
        }
        for (long number : Check.NUMBERS) {
            x.load(0, number);
            x.load(7, ~number);
            Check.due("bits(0)", x.bits(0), number);
            Check.due("bits(7)", x.bits(7), ~number);
        }
    }

    private static void bitsOfNoRegister() {
        BinaryFunctions x = Check.used();
        String before = Check.state(x);
        for (int bad : Check.NO_REGISTERS) {
            Check.due("bits(" + bad + ")", x.bits(bad), 0);
        }
        Check.due("after bits of no register", Check.state(x), before);
    }

    private static void quotient() {
        BinaryFunctions x = Check.with(Check.of(13), Check.of(2));
        Check.due("quotient of a new object", x.quotient(), 0);
        x.left(2, 0, 1, false);
        Check.due("quotient", x.quotient(), 6);
        Check.due("quotient asked again", x.quotient(), 6);
        x.load(3, 9);
        x.sqrt(3, 0);
        x.whole(3, 0, 0);
        x.scale(3, 0, 5);
        x.neighbour(3, 0, 1);
        x.exponent(0);
        x.compare(0, 1);
        x.sort(0);
        x.clear();
        Check.due("quotient after other calls", x.quotient(), 6);
        callsThatAreRefused(x);
        Check.due("quotient after refused calls", x.quotient(), 6);
        x.left(2, 1, 0, false);
        Check.due("quotient of the next left", x.quotient(), 0);
    }

    private static void flags() {
        BinaryFunctions x = after(any -> { });
        Check.due("flags of a new object", x.flags(), 0);
        x.sqrt(5, 0);
        Check.due("flags, INVALID", x.flags(), 1);
        x.sqrt(5, 0);
        Check.due("flags, INVALID twice", x.flags(), 1);
        x.sqrt(5, 1);
        Check.due("flags, and INEXACT", x.flags(), 3);
        x.sqrt(5, 1);
        Check.due("flags, and INEXACT twice", x.flags(), 3);
        x.scale(5, 3, 1);
        Check.due("flags, and OVERFLOW", x.flags(), 7);
        x.scale(5, 3, 1);
        Check.due("flags, and OVERFLOW twice", x.flags(), 7);
        x.scale(5, 2, -1);
        Check.due("flags, all", x.flags(), 15);
        x.scale(5, 2, -1);
        Check.due("flags, all twice", x.flags(), 15);
        Check.due("flags asked again", x.flags(), 15);
    }

    private static void clear() {
        BinaryFunctions x = Check.used();
        String before = Check.state(x);
        x.clear();
        Check.due("after clear", Check.state(x), before.replace("flags 15", "flags 0"));
        x.clear();
        Check.due("after clear twice", Check.state(x), before.replace("flags 15", "flags 0"));
        x.sqrt(5, 1);
        Check.due("flags set after clear", x.flags(), 2);
        BinaryFunctions fresh = new BinaryFunctions();
        fresh.clear();
        Check.due("a new object after clear", Check.state(fresh), NEW_STATE);
    }
}
