/** Promises 1 (a new object), 2 (load), 3 (bits), 7 (quotient), 13 (flags), 14 (clear), and refused calls. */
public final class StateTest {
    private StateTest() {
    }

    public static void main(String[] args) {
        newObject();
        loadAndBits();
        refusedCallsChangeNothing();
        resultMayReplaceWhatIsUsed();
        onlyTheResultChanges();
        flagsStayUntilClear();
        objectsAreApart();
        Check.finish("StateTest");
    }

    private static void newObject() {
        Check.due("new", Check.state(new BinaryFunctions()), "0 0 0 0 0 0 0 0 flags 0 quotient 0");
    }

    private static void loadAndBits() {
        long[] patterns = {0, 1, -1, Check.MINUS, Long.MAX_VALUE, Check.INFINITY, Check.INFINITY + 1, 0x123456789ABCDEFL};
        BinaryFunctions x = new BinaryFunctions();
        for (int r = 0; r < 8; r++) {
            Check.due("load " + r, x.load(r, patterns[r]), true);
        }
        for (int r = 0; r < 8; r++) {
            Check.due("bits " + r, x.bits(r), patterns[r]);
        }
        for (long nan : Check.NANS) {
            x.load(3, nan);
            Check.due("bits of a NAN", x.bits(3), nan);
        }
        Check.due("flags after load", x.flags(), 0);
        for (int r : Check.NO_REGISTERS) {
            Check.due("bits " + r, x.bits(r), 0);
        }
    }

    /** An object whose registers, flags and quotient are all other than those of a new one. */
    private static BinaryFunctions used() {
        BinaryFunctions x = new BinaryFunctions();
        double[] values = {7.5, 2, -3.25, 1e300, -1, 9, 0.1, 5};
        for (int r = 0; r < 8; r++) {
            x.load(r, Check.of(values[r]));
        }
        x.whole(6, 6, 0);
        x.load(6, Check.of(0.1));
        x.left(5, 0, 1, false);
        return x;
    }

    private static void refusedCallsChangeNothing() {
        BinaryFunctions x = used();
        String before = Check.state(x);
        Check.due("flags of used()", x.flags(), Check.INEXACT);
        Check.due("quotient of used()", x.quotient(), 3);
        for (int bad : Check.NO_REGISTERS) {
            Check.due("load " + bad, x.load(bad, 5), false);
            Check.due("sqrt to " + bad, x.sqrt(bad, 4), false);
            Check.due("sqrt from " + bad, x.sqrt(4, bad), false);
            Check.due("whole to " + bad, x.whole(bad, 6, 0), false);
            Check.due("whole from " + bad, x.whole(6, bad, 0), false);
            Check.due("left to " + bad, x.left(bad, 7, 1, true), false);
            Check.due("left a " + bad, x.left(7, bad, 1, true), false);
            Check.due("left b " + bad, x.left(7, 0, bad, false), false);
            Check.due("neighbour to " + bad, x.neighbour(bad, 0, 1), false);
            Check.due("neighbour a " + bad, x.neighbour(0, bad, 1), false);
            Check.due("neighbour b " + bad, x.neighbour(0, 1, bad), false);
            Check.due("scale to " + bad, x.scale(bad, 3, 2000), false);
            Check.due("scale from " + bad, x.scale(3, bad, 2000), false);
            Check.due("exponent " + bad, x.exponent(bad), 0);
            Check.due("compare a " + bad, x.compare(bad, 0), 2);
            Check.due("compare b " + bad, x.compare(0, bad), 2);
            Check.due("compare both " + bad, x.compare(bad, bad), 2);
            Check.due("sort " + bad, x.sort(bad), -1);
            Check.due("after refusals of " + bad, Check.state(x), before);
        }
        for (int how : new int[] {-1, 4, 5, 8, Integer.MIN_VALUE, Integer.MAX_VALUE}) {
            Check.due("whole how " + how, x.whole(6, 6, how), false);
            Check.due("after whole how " + how, Check.state(x), before);
        }
    }

    private static void resultMayReplaceWhatIsUsed() {
        for (int to = 0; to < 8; to++) {
            BinaryFunctions x = used();
            x.left(to, 0, 1, true);
            Check.due("left to " + to, x.bits(to), Check.of(-0.5));
            x = used();
            x.neighbour(to, 0, 1);
            Check.due("neighbour to " + to, x.bits(to), Check.of(7.5) - 1);
            x = used();
            x.sqrt(to, 7);
            Check.due("sqrt to " + to, x.bits(to), Check.of(Math.sqrt(5)));
            x = used();
            x.whole(to, 2, 1);
            Check.due("whole to " + to, x.bits(to), Check.of(-4));
            x = used();
            x.scale(to, 2, 2);
            Check.due("scale to " + to, x.bits(to), Check.of(-13));
        }
        BinaryFunctions x = used();
        x.left(2, 2, 2, true);
        Check.due("left of a register by itself", x.bits(2), Check.MINUS);
        Check.due("its quotient", x.quotient(), 1);
        x.neighbour(3, 3, 3);
        Check.due("neighbour of a register towards itself", x.bits(3), Check.of(1e300));
    }

    private static void onlyTheResultChanges() {
        BinaryFunctions x = used();
        BinaryFunctions twin = used();
        x.sqrt(4, 7);
        x.whole(4, 2, 0);
        x.neighbour(4, 0, 1);
        x.scale(4, 3, 50);
        x.load(4, twin.bits(4));
        Check.due("state after calls into register 4", Check.state(x), withOverflow(twin));
    }

    /** The scaling in onlyTheResultChanges adds OVERFLOW, and nothing else may differ. */
    private static String withOverflow(BinaryFunctions twin) {
        return Check.state(twin).replace("flags 2", "flags 6");
    }

    private static void flagsStayUntilClear() {
        BinaryFunctions x = new BinaryFunctions();
        x.load(0, Check.of(-1));
        x.load(1, Check.of(2));
        x.load(2, 1);
        x.load(3, Check.GREATEST);
        x.load(4, Check.of(13));
        x.sqrt(5, 0);
        Check.due("flags", x.flags(), 1);
        x.sqrt(5, 1);
        Check.due("flags", x.flags(), 3);
        x.scale(5, 3, 1);
        Check.due("flags", x.flags(), 7);
        x.scale(5, 2, -1);
        Check.due("flags", x.flags(), 15);
        x.sqrt(5, 0);
        x.scale(5, 1, 1);
        x.whole(5, 1, 0);
        x.left(5, 4, 1, false);
        Check.due("flags after calls that set none", x.flags(), 15);
        Check.due("flags asked again", x.flags(), 15);
        String before = Check.state(x);
        x.clear();
        Check.due("after clear", Check.state(x), before.replace("flags 15", "flags 0"));
        Check.due("quotient after clear", x.quotient(), 6);
        x.clear();
        Check.due("flags after clear twice", x.flags(), 0);
        x.sqrt(5, 1);
        Check.due("flags set after clear", x.flags(), 2);
    }

    private static void objectsAreApart() {
        BinaryFunctions x = used();
        BinaryFunctions y = new BinaryFunctions();
        y.load(0, 1);
        y.scale(0, 0, -1);
        Check.due("the other object", Check.state(x), Check.state(used()));
        Check.due("a new object", Check.state(new BinaryFunctions()), "0 0 0 0 0 0 0 0 flags 0 quotient 0");
    }
}
