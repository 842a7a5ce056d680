import java.util.function.Consumer;
import java.util.function.IntToLongFunction;
import java.util.function.IntUnaryOperator;
import java.util.function.Supplier;

/** What the tests of boundary cases have in common. */
abstract class Boundaries {
    static final Checks CHECKS = new Checks("BoundariesTest");
    static final int BAD = Subject.BAD, NONE = Subject.NONE, FULL = Subject.FULL;
    static final String NO_INDEX = Subject.NO_INDEX, NO_QUOTIENT = Subject.NO_QUOTIENT;
    static final int[] WILD = Subject.WILD;
    static final int MOST_SIGNS = 400;

    static Subject of(int... signs) {
        return Subject.of(signs);
    }

    static Subject filled(int size, IntUnaryOperator signAt) {
        return Subject.filled(size, signAt);
    }

    /** The same calls of an object and of the model: both as far. */
    static Model modelOf(int size, IntUnaryOperator signAt) {
        Model model = new Model();
        for (int p = 0; p < size; p++) {
            model.sign(signAt.applyAsInt(p));
        }
        return model;
    }

    static void due(String call, long got, long want) {
        CHECKS.due(call, got, want);
    }

    static void due(String call, String got, Object want) {
        CHECKS.due(call, got, want);
    }

    /** A function of one number answers BAD, whatever number far out of bounds it is given. */
    static void dueBadOfWild(String call, IntToLongFunction function) {
        for (int n : WILD) {
            due(call + " of " + n, function.applyAsLong(n), BAD);
        }
    }

    /** Answers that between them show the text, the order and the weights. */
    static String answersOf(Subject x) {
        StringBuilder all = new StringBuilder();
        all.append(x.length()).append(" order");
        for (int j = 0; j < 3; j++) {
            all.append(' ').append(x.context(0, j));
        }
        all.append(" counts");
        for (int s = -1; s < 16; s++) {
            all.append(' ').append(x.count(0, s));
        }
        all.append(" shares");
        for (int s = 0; s < 16; s++) {
            all.append(' ').append(x.share(s));
        }
        all.append(" costs");
        for (int kind = 0; kind < 3; kind++) {
            all.append(' ').append(x.cost(kind, 9, 0)).append(' ').append(x.cost(kind, 9, 1));
        }
        all.append(" words ").append(x.bits(0)).append(' ').append(x.bits(1));
        all.append(" pieces ").append(x.pieces(0)).append(' ').append(x.pieces(1));
        all.append(" grammar ").append(x.grammar(0)).append(' ').append(x.grammar(1));
        for (int i = 0; i < 12; i++) {
            all.append(' ').append(x.symbol(i));
        }
        for (int number = 16; number < 19; number++) {
            all.append(' ').append(x.rule(number, 0)).append(' ').append(x.rule(number, 1));
        }
        return all.toString();
    }

    /** The same and more, of a text that leaves room for so many calls. */
    static String allAnswersOf(Subject x) {
        StringBuilder all = new StringBuilder(answersOf(x));
        for (int kind = 0; kind < 2; kind++) {
            all.append(" widths");
            for (int s = 0; s < 16; s++) {
                all.append(' ').append(x.width(kind, s));
            }
            all.append(" pieces");
            for (int i = 0; i < 8; i++) {
                all.append(' ').append(x.piece(kind, i, 1)).append(' ').append(x.piece(kind, i, 2));
            }
        }
        return all.toString();
    }

    /** An object with signs, weights and an order, all of which a faulty call might spoil. */
    static Subject ordinary() {
        Subject x = of(3, 0, 3, 15, 3, 0, 7, 3, 0);
        x.weight(0, 5);
        x.weight(3, 1000);
        x.weight(7, 1);
        x.weight(15, 2);
        x.order(2);
        return x;
    }

    /** Behind the calls the object answers as one that has never had them. */
    static void dueUnchanged(String calls, Supplier<Subject> make, Consumer<Subject> refused) {
        Subject x = make.get();
        refused.accept(x);
        due("answers behind " + calls, answersOf(x), answersOf(make.get()));
        Subject y = make.get();
        answersOf(y);
        refused.accept(y);
        due("answers before and behind " + calls, answersOf(y), answersOf(make.get()));
    }

    static int[] row(int... numbers) {
        return numbers;
    }
}
