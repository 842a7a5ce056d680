import java.util.function.IntUnaryOperator;
import java.util.function.LongSupplier;

/**
 * An object under test. It counts the calls, since nothing is promised behind the 512th: a test
 * that would go beyond it asks for what the document leaves free.
 */
final class Subject {
    static final int BAD = -1, NONE = -2, FULL = -3;
    static final String NO_INDEX = "throws.ArrayIndexOutOfBoundsException";
    static final String NO_QUOTIENT = "throws.ArithmeticException";
    static final int CALLS = 512;

    /** Numbers that are out of all bounds, those that wrap around when they are shifted too. */
    static final int[] WILD = {
        Integer.MIN_VALUE, Integer.MIN_VALUE + 1, Integer.MIN_VALUE + 16, -1048576, -65536, -400,
        -256, -32, -16, -3, -2, 1048577, 16777216, 1 << 30, Integer.MAX_VALUE - 16,
        Integer.MAX_VALUE - 1, Integer.MAX_VALUE,
    };

    private final EntropyBounds object = new EntropyBounds();
    private int calls = 0;

    static Subject of(int... signs) {
        return filled(signs.length, p -> signs[p]);
    }

    static Subject filled(int size, IntUnaryOperator signAt) {
        Subject x = new Subject();
        for (int p = 0; p < size; p++) {
            x.sign(signAt.applyAsInt(p));
        }
        return x;
    }

    int callsLeft() {
        return CALLS - calls;
    }

    private EntropyBounds next() {
        calls++;
        if (calls > CALLS) {
            throw new AssertionError("the test makes more than 512 calls of one object");
        }
        return object;
    }

    private static String told(LongSupplier call) {
        try {
            return String.valueOf(call.getAsLong());
        } catch (RuntimeException e) {
            return "throws." + e.getClass().getSimpleName();
        }
    }

    int sign(int s) {
        return next().sign(s);
    }

    int wipe() {
        return next().wipe();
    }

    int order(int k) {
        return next().order(k);
    }

    int context(int c, int j) {
        return next().context(c, j);
    }

    int count(int c, int s) {
        return next().count(c, s);
    }

    long log(int n, int digits, int side) {
        return next().log(n, digits, side);
    }

    int weight(int s, int w) {
        return next().weight(s, w);
    }

    /** What share answers, or the very exception that it throws. */
    String share(int s) {
        EntropyBounds called = next();
        return told(() -> called.share(s));
    }

    long cost(int kind, int digits, int side) {
        return next().cost(kind, digits, side);
    }

    int digits(int kind, int w) {
        return next().digits(kind, w);
    }

    int width(int kind, int s) {
        return next().width(kind, s);
    }

    int bits(int kind) {
        return next().bits(kind);
    }

    int pieces(int kind) {
        return next().pieces(kind);
    }

    int piece(int kind, int i, int what) {
        return next().piece(kind, i, what);
    }

    int grammar(int what) {
        return next().grammar(what);
    }

    int rule(int number, int side) {
        return next().rule(number, side);
    }

    /** What symbol answers, or the very exception that it throws. */
    String symbol(int i) {
        EntropyBounds called = next();
        return told(() -> called.symbol(i));
    }

    int length() {
        return next().length();
    }
}
