import java.util.function.IntUnaryOperator;

/** The promises one by one, with answers worked out by hand: the ordinary, the edges, the wrong. */
public final class PromisesTest {
    private static final Checks CHECKS = new Checks("PromisesTest");
    private static final int BAD = Subject.BAD, NONE = Subject.NONE, FULL = Subject.FULL;

    public static void main(String[] args) {
        CHECKS.runTestsOf(PromisesTest.class);
        CHECKS.end();
    }

    private static Subject of(int... signs) {
        return Subject.of(signs);
    }

    private static Subject filled(int size, IntUnaryOperator signAt) {
        return Subject.filled(size, signAt);
    }

    private static void due(String call, long got, long want) {
        CHECKS.due(call, got, want);
    }

    private static void promise01NewObject() {
        Subject x = new Subject();
        due("length of a new one", x.length(), 0);
        for (int s = 0; s < 16; s++) {
            due("weight of a new one", x.weight(s, 0), 0);
            due("width of a new one", x.width(0, s), 0);
            due("step width of a new one", x.width(1, s), 0);
        }
        due("context of a new one", x.context(0, 0), BAD);
        due("count of a new one", x.count(0, -1), BAD);
        x.sign(5);
        due("the order is 0 at first", x.count(0, -1), 1);
        due("a second one has its own text", new Subject().length(), 0);
        due("the first one keeps its text", x.length(), 1);
    }

    private static void promise02Sign() {
        Subject x = new Subject();
        due("sign(-1)", x.sign(-1), BAD);
        due("sign(16)", x.sign(16), BAD);
        due("length after wrong signs", x.length(), 0);
        for (int p = 0; p < 400; p++) {
            due("sign at " + p, x.sign(p % 16), p + 1);
        }
        due("sign 401", x.sign(0), FULL);
        due("a wrong sign of a full text", x.sign(16), BAD);
        due("length of a full text", x.length(), 400);
        due("a full text has not changed", x.count(0, 0), 25);
        due("wipe of a full text", x.wipe(), 400);
        due("sign behind a wipe", x.sign(15), 1);
        due("the sign is there", x.count(0, 15), 1);
    }

    private static void promise03Wipe() {
        Subject x = of(1, 2, 1, 2, 1);
        x.weight(1, 7);
        x.order(2);
        due("wipe", x.wipe(), 5);
        due("wipe again", x.wipe(), 0);
        due("length", x.length(), 0);
        due("contexts", x.count(0, -1), BAD);
        due("pieces", x.pieces(0) + x.pieces(1), 0);
        due("grammar", x.grammar(0), 0);
        due("bits", x.bits(0) + x.bits(1), 0);
        due("cost", x.cost(0, 3, 1) + x.cost(1, 3, 1) + x.cost(2, 3, 1), 0);
        for (int s : new int[] {3, 4, 5}) {
            x.sign(s);
        }
        due("the order stays", x.context(0, 1), 4);
        due("the weights stay", x.weight(1, 0), 7);
    }

    private static void promise04Order() {
        Subject x = of(0, 0, 0, 1, 0, 0, 0, 1);
        due("order(0)", x.order(0), 1);
        due("order(1)", x.order(1), 2);
        due("order(2)", x.order(2), 3);
        due("order(3)", x.order(3), 4);
        due("order(4)", x.order(4), BAD);
        due("order(-1)", x.order(-1), BAD);
        due("a wrong order changes nothing", x.context(3, 0), 1);
        Subject y = of(4, 5, 6);
        due("as many signs as the order", y.order(3), 0);
        y.sign(7);
        due("one sign more", y.order(3), 1);
        due("all pairs of signs", pairsOfSigns().order(2), 256);
    }

    /** Every pair of signs stands in it, once as a context of order 2. */
    private static Subject pairsOfSigns() {
        Subject x = new Subject();
        for (int a = 0; a < 16; a++) {
            x.sign(a);
            for (int b = a + 1; b < 16; b++) {
                x.sign(a);
                x.sign(b);
            }
        }
        x.sign(0);
        x.sign(0);
        return x;
    }

    private static void promise05Context() {
        Subject x = of(3, 1, 2, 3, 1, 15, 0);
        due("order 0 has no sign", x.context(0, 0), BAD);
        x.order(2);
        int[][] contexts = {{3, 1}, {1, 2}, {2, 3}, {1, 15}};
        for (int c = 0; c < contexts.length; c++) {
            due("first sign of context " + c, x.context(c, 0), contexts[c][0]);
            due("second sign of context " + c, x.context(c, 1), contexts[c][1]);
        }
        due("context(4, 0)", x.context(4, 0), BAD);
        due("context(-1, 0)", x.context(-1, 0), BAD);
        due("context(0, 2)", x.context(0, 2), BAD);
        due("context(0, -1)", x.context(0, -1), BAD);
        x.order(3);
        due("order 3, earliest first", x.context(3, 0) * 256 + x.context(3, 1) * 16 + x.context(3, 2),
                3 * 256 + 16 + 15);
        x.sign(9);
        due("a new sign brings a context", x.context(4, 2), 0);
    }

    private static void promise06Count() {
        Subject x = of(0, 1, 0, 2, 0, 1, 0);
        due("count(0, 0)", x.count(0, 0), 4);
        due("count(0, -1)", x.count(0, -1), 7);
        due("count(0, 3)", x.count(0, 3), 0);
        due("count(0, 15)", x.count(0, 15), 0);
        due("count(0, 16)", x.count(0, 16), BAD);
        due("count(0, -2)", x.count(0, -2), BAD);
        due("count(1, 0)", x.count(1, 0), BAD);
        due("count(-1, 0)", x.count(-1, 0), BAD);
        x.order(1);
        due("count of 1 behind 0", x.count(0, 1), 2);
        due("count of 2 behind 0", x.count(0, 2), 1);
        due("all behind 0", x.count(0, -1), 3);
        due("all behind 1", x.count(1, -1), 2);
        due("count of 0 behind 2", x.count(2, 0), 1);
        x.sign(0);
        due("a sign more behind 0", x.count(0, 0), 1);
        due("all behind 0 then", x.count(0, -1), 4);
    }

    private static void promise07Log() {
        Subject x = new Subject();
        for (int e = 0; e <= 20; e++) {
            for (int d = 0; d <= 24; d += 8) {
                due("LOW of 2^" + e, x.log(1 << e, d, 0), (long) e << d);
                due("HIGH of 2^" + e, x.log(1 << e, d, 1), (long) e << d);
            }
        }
        due("log(5, 1, 0)", x.log(5, 1, 0), 4);
        due("log(5, 1, 1)", x.log(5, 1, 1), 5);
        due("log(6, 1, 0)", x.log(6, 1, 0), 5);
        due("log(6, 1, 1)", x.log(6, 1, 1), 6);
        due("log(10, 10, 0)", x.log(10, 10, 0), 3401);
        due("log(10, 10, 1)", x.log(10, 10, 1), 3402);
        due("log(0, 0, 0)", x.log(0, 0, 0), BAD);
        due("log(1048577, 0, 0)", x.log(1048577, 0, 0), BAD);
        due("log(3, -1, 0)", x.log(3, -1, 0), BAD);
        due("log(3, 25, 0)", x.log(3, 25, 0), BAD);
        due("log(3, 3, -1)", x.log(3, 3, -1), BAD);
        due("log(3, 3, 2)", x.log(3, 3, 2), BAD);
    }

    private static void promise07LogEnclosesTheTrueOne() {
        for (int n = 1; n <= 1048576; n = n < 2000 ? n + 1 : n + n / 100) {
            Subject x = new Subject();
            double log = Math.log(n) / Math.log(2);
            for (int d : new int[] {0, 5, 24}) {
                double parts = Math.scalb(log, d);
                boolean low = x.log(n, d, 0) <= parts + 1e-6;
                boolean high = x.log(n, d, 1) >= parts - 1e-6;
                CHECKS.due("encloses the log of " + n + " to " + d, low && high, true);
                CHECKS.due("is near the log of " + n, x.log(n, d, 1) - x.log(n, d, 0) <= 2, true);
            }
        }
    }

    private static void promise08Weight() {
        Subject x = new Subject();
        due("weight(0, 1000)", x.weight(0, 1000), 0);
        due("weight(0, 0)", x.weight(0, 0), 1000);
        due("weight(15, 3)", x.weight(15, 3), 0);
        due("weight(16, 3)", x.weight(16, 3), BAD);
        due("weight(-1, 3)", x.weight(-1, 3), BAD);
        due("weight(15, 1001)", x.weight(15, 1001), BAD);
        due("weight(15, -1)", x.weight(15, -1), BAD);
        due("a wrong weight changes nothing", x.weight(15, 4), 3);
        due("the weights say no length", x.length(), 0);
    }

    private static void promise09Share() {
        Subject x = new Subject();
        CHECKS.due("share of no sum", x.share(15), Subject.NO_QUOTIENT);
        CHECKS.due("no such sign comes first", x.share(16), Subject.NO_INDEX);
        CHECKS.due("share(-1)", x.share(-1), Subject.NO_INDEX);
        x.weight(3, 1);
        x.weight(4, 2);
        CHECKS.due("share(3)", x.share(3), 333333);
        CHECKS.due("share(4)", x.share(4), 666666);
        CHECKS.due("share(5)", x.share(5), 0);
        CHECKS.due("share(16)", x.share(16), Subject.NO_INDEX);
        x.weight(4, 0);
        CHECKS.due("share of the only weight", x.share(3), 1000000);
        x.weight(3, 0);
        CHECKS.due("share of a sum of 0 again", x.share(3), Subject.NO_QUOTIENT);
        for (int s = 0; s < 16; s++) {
            x.weight(s, 1000);
        }
        CHECKS.due("share of the greatest sum", x.share(0), 62500);
    }

    private static void promise10CostOfContent() {
        Subject x = of(0, 1, 0, 1);
        due("powers of 2 are exact, LOW", x.cost(0, 3, 0), 32);
        due("powers of 2 are exact, HIGH", x.cost(0, 3, 1), 32);
        x.order(1);
        due("no content behind the sign before", x.cost(0, 24, 1), 0);
        Subject y = of(0, 0, 0, 1);
        // Of 0: 3 times 2 less the log of 3, between 1 and 2; of 1: 2.
        due("LOW of 3 and 1", y.cost(0, 0, 0), 2);
        due("HIGH of 3 and 1", y.cost(0, 0, 1), 5);
        Subject z = filled(7, p -> p < 6 ? 0 : 1);
        // LOW of 7 is 2, HIGH of 6 is 3: below 0 counts as 0; LOW of 7 less HIGH of 1 is 2.
        due("LOW is not below 0", z.cost(0, 0, 0), 2);
        due("HIGH beside it", z.cost(0, 0, 1), 6 * (3 - 2) + 3);
        due("one sign alone costs nothing", of(4, 4, 4).cost(0, 24, 1), 0);
    }

    private static void promise10CostOfCross() {
        Subject x = of(0, 1, 1);
        due("no weights", x.cost(1, 3, 0), NONE);
        x.weight(0, 4);
        due("not all weights", x.cost(1, 3, 0), NONE);
        x.weight(1, 2);
        x.weight(9, 2);
        due("LOW by weights", x.cost(1, 3, 0), 8 + 2 * 16);
        due("HIGH by weights", x.cost(1, 3, 1), 8 + 2 * 16);
        x.weight(9, 0);
        // The SUM is 6: 2.5 and 3 to one digit.
        due("LOW of 6", x.cost(1, 1, 0), 1 + 2 * 3);
        due("HIGH of 6", x.cost(1, 1, 1), 2 + 2 * 4);
        x.weight(0, 0);
        due("a weight is gone", x.cost(1, 3, 1), NONE);
        x.wipe();
        x.sign(1);
        due("the whole weight", x.cost(1, 24, 1), 0);
    }

    private static void promise10CostOfGrowing() {
        due("first sign", of(7).cost(2, 5, 0), 4 * 32);
        due("first sign, HIGH", of(7).cost(2, 5, 1), 4 * 32);
        // 1 in 16, 2 in 17: LOW 4 + 4 - 1, HIGH 4 + 5 - 1.
        due("the same sign again, LOW", of(7, 7).cost(2, 0, 0), 7);
        due("the same sign again, HIGH", of(7, 7).cost(2, 0, 1), 8);
        due("another sign, LOW", of(7, 8).cost(2, 0, 0), 8);
        due("another sign, HIGH", of(7, 8).cost(2, 0, 1), 9);
        Subject x = of(7, 8);
        x.order(3);
        due("the order does not matter", x.cost(2, 0, 1), 9);
    }

    private static void promise10WrongCost() {
        Subject x = of(1, 2, 3);
        due("cost(-1, 0, 0)", x.cost(-1, 0, 0), BAD);
        due("cost(3, 0, 0)", x.cost(3, 0, 0), BAD);
        for (int kind = 0; kind < 3; kind++) {
            due("digits -1", x.cost(kind, -1, 0), BAD);
            due("digits 25", x.cost(kind, 25, 0), BAD);
            due("side -1", x.cost(kind, 0, -1), BAD);
            due("side 2", x.cost(kind, 0, 2), BAD);
        }
    }

    private static void promise11Digits() {
        Subject x = of(0, 0, 0, 1);
        // HIGH less LOW is 3 to any digits: 3 times 1024 is not above w 2^digits.
        due("digits(0, 3072)", x.digits(0, 3072), 0);
        due("digits(0, 3071)", x.digits(0, 3071), 1);
        due("digits(0, 3)", x.digits(0, 3), 10);
        due("digits(0, 2)", x.digits(0, 2), 11);
        due("digits(0, 1)", x.digits(0, 1), 12);
        due("digits(0, 0)", x.digits(0, 0), NONE);
        due("digits(0, 1000000)", x.digits(0, 1000000), 0);
        due("digits(0, 1000001)", x.digits(0, 1000001), BAD);
        due("digits(0, -1)", x.digits(0, -1), BAD);
        due("digits(3, 5)", x.digits(3, 5), BAD);
        due("digits(-1, 5)", x.digits(-1, 5), BAD);
        due("digits(1, 5) without weights", x.digits(1, 5), NONE);
        due("digits(1, -1) without weights", x.digits(1, -1), BAD);
        x.weight(0, 1);
        x.weight(1, 1);
        due("an exact cost", x.digits(1, 0), 0);
        due("growing to no gap", of(7).digits(2, 0), 0);
    }

    private static void promise12Width() {
        Subject x = of(9, 9, 9);
        due("one alone", x.width(0, 9), 1);
        due("not there", x.width(0, 8), 0);
        x.sign(8);
        due("two", x.width(0, 8) * 10 + x.width(0, 9), 11);
        Subject y = filled(15, p -> p < 8 ? 0 : p < 12 ? 1 : p < 14 ? 2 : 3);
        int[] widths = {1, 2, 3, 3};
        for (int s = 0; s < 4; s++) {
            due("width of " + s, y.width(0, s), widths[s]);
        }
        due("width(-1, 0)", y.width(-1, 0), BAD);
        due("width(2, 0)", y.width(2, 0), BAD);
        due("width(0, -1)", y.width(0, -1), BAD);
        due("width(0, 16)", y.width(0, 16), BAD);
        due("width(1, 16)", y.width(1, 16), BAD);
        Subject z = filled(16, p -> p);
        for (int s = 0; s < 16; s++) {
            due("all signs once", z.width(0, s), 4);
        }
    }

    private static void promise12TiesOfTrees() {
        Subject x = of(0, 1, 2, 2, 3, 3);
        for (int s = 0; s < 4; s++) {
            due("a joined tree comes behind all others", x.width(0, s), 2);
        }
        Subject y = of(2, 1, 0);
        due("signs by their order, 0", y.width(0, 0), 2);
        due("signs by their order, 1", y.width(0, 1), 2);
        due("signs by their order, 2", y.width(0, 2), 1);
        // The widest: each number is above the sum of all before it.
        int[] numbers = {1, 1, 2, 4, 8, 16, 32, 64, 128};
        Subject z = new Subject();
        for (int s = 0; s < numbers.length; s++) {
            for (int i = 0; i < numbers[s]; i++) {
                z.sign(s);
            }
        }
        due("the widest", z.width(0, 0) * 100 + z.width(0, 1) * 10 + z.width(0, 8), 881);
    }

    private static void promise12StepWidth() {
        Subject x = filled(400, p -> p == 0 ? 1 : p < 50 ? 2 : 3);
        due("1 of 400", x.width(1, 1), 9);
        due("49 of 400", x.width(1, 2), 4);
        due("350 of 400", x.width(1, 3), 1);
        due("0 of 400", x.width(1, 0), 0);
        due("all", of(5, 5).width(1, 5), 0);
        due("a half", of(5, 6).width(1, 5), 1);
        due("a third", of(5, 6, 6).width(1, 5), 2);
    }

    private static void promise13Bits() {
        Subject x = filled(15, p -> p < 8 ? 0 : p < 12 ? 1 : p < 14 ? 2 : 3);
        due("bits(0)", x.bits(0), 8 + 4 * 2 + 2 * 3 + 3);
        due("bits(1)", x.bits(1), 8 + 4 * 2 + 2 * 3 + 4);
        due("bits(2)", x.bits(2), BAD);
        due("bits(-1)", x.bits(-1), BAD);
        due("bits(0) of one alone", of(3, 3, 3).bits(0), 3);
        due("bits(1) of one alone", of(3, 3, 3).bits(1), 0);
    }

    private static void duePieces(Subject x, int kind, int[]... want) {
        due("pieces(" + kind + ")", x.pieces(kind), want.length);
        for (int i = 0; i < want.length; i++) {
            for (int what = 0; what < 3; what++) {
                due("piece(" + kind + ", " + i + ", " + what + ")", x.piece(kind, i, what), want[i][what]);
            }
        }
        due("no piece behind the last", x.piece(kind, want.length, 0), BAD);
    }

    private static int[] row(int... numbers) {
        return numbers;
    }

    private static void promise14And15Factors() {
        duePieces(of(1, 2, 1, 2, 1, 2, 3, 2, 1),
                0, row(0, 1, NONE), row(1, 1, NONE), row(2, 4, 0), row(6, 1, NONE), row(7, 2, 1));
        duePieces(of(4, 4, 4, 4), 0, row(0, 1, NONE), row(1, 3, 0));
        duePieces(of(4), 0, row(0, 1, NONE));
        // A single sign that stands earlier is a run too, from the least place.
        duePieces(of(1, 1, 2, 1), 0, row(0, 1, NONE), row(1, 1, 0), row(2, 1, NONE), row(3, 1, 0));
        // The least of the places of the longest run, not the least place of a shorter one.
        duePieces(of(1, 2, 1, 3, 1, 3), 0, row(0, 1, NONE), row(1, 1, NONE), row(2, 1, 0),
                row(3, 1, NONE), row(4, 2, 2));
    }

    private static void promise14And15Phrases() {
        duePieces(of(1, 2, 1, 2, 1, 2, 1, 1),
                1, row(0, 1, NONE), row(1, 1, NONE), row(2, 2, 0), row(4, 3, 2), row(7, 1, 0));
        duePieces(of(4, 4, 4), 1, row(0, 1, NONE), row(1, 2, 0));
        duePieces(of(4, 4, 4, 4, 4), 1, row(0, 1, NONE), row(1, 2, 0), row(3, 2, 1));
        duePieces(of(4, 4), 1, row(0, 1, NONE), row(1, 1, 0));
        duePieces(of(4), 1, row(0, 1, NONE));
        Subject x = of(4, 4);
        x.pieces(1);
        x.sign(5);
        duePieces(x, 1, row(0, 1, NONE), row(1, 2, 0));
    }

    private static void promise14And15Wrong() {
        Subject x = of(4, 4, 4);
        due("pieces(-1)", x.pieces(-1), BAD);
        due("pieces(2)", x.pieces(2), BAD);
        due("piece(-1, 0, 0)", x.piece(-1, 0, 0), BAD);
        due("piece(2, 0, 0)", x.piece(2, 0, 0), BAD);
        for (int kind = 0; kind < 2; kind++) {
            due("piece -1", x.piece(kind, -1, 0), BAD);
            due("piece 2", x.piece(kind, 2, 0), BAD);
            due("what -1", x.piece(kind, 0, -1), BAD);
            due("what 3", x.piece(kind, 0, 3), BAD);
        }
    }

    private static void dueGrammar(Subject x, int[] row, int[]... rules) {
        due("grammar(0)", x.grammar(0), row.length + 2 * rules.length);
        due("grammar(1)", x.grammar(1), rules.length);
        due("grammar(2)", x.grammar(2), row.length);
        for (int i = 0; i < rules.length; i++) {
            due("rule(" + (16 + i) + ", 0)", x.rule(16 + i, 0), rules[i][0]);
            due("rule(" + (16 + i) + ", 1)", x.rule(16 + i, 1), rules[i][1]);
        }
        for (int i = 0; i < row.length; i++) {
            CHECKS.due("symbol(" + i + ")", x.symbol(i), row[i]);
        }
        due("no rule behind the last", x.rule(16 + rules.length, 0), BAD);
        CHECKS.due("no symbol behind the last", x.symbol(row.length), Subject.NO_INDEX);
    }

    private static void promise16To18Grammar() {
        dueGrammar(of(1, 2, 3), row(1, 2, 3));
        dueGrammar(of(5), row(5));
        dueGrammar(of(5, 5, 5), row(5, 5, 5));
        dueGrammar(of(5, 5, 5, 5), row(16, 16), row(5, 5));
        dueGrammar(of(5, 5, 5, 5, 5), row(16, 16, 5), row(5, 5));
        dueGrammar(of(5, 5, 5, 5, 5, 5, 5, 5), row(17, 17), row(5, 5), row(16, 16));
        dueGrammar(of(3, 4, 3, 4, 9, 3, 4), row(16, 16, 9, 16), row(3, 4));
        Subject x = of(5, 5, 5);
        x.grammar(0);
        x.sign(5);
        dueGrammar(x, row(16, 16), row(5, 5));
        x.wipe();
        dueGrammar(x, row());
    }

    private static void promise16To18Ties() {
        // (2, 1) and (1, 3) stand twice each: the lesser first symbol.
        dueGrammar(of(2, 1, 9, 1, 3, 8, 2, 1, 7, 1, 3), row(17, 9, 16, 8, 17, 7, 16), row(1, 3), row(2, 1));
        // (1, 3) and (1, 2) stand twice each: the lesser second symbol.
        dueGrammar(of(1, 3, 9, 1, 2, 8, 1, 3, 7, 1, 2), row(17, 9, 16, 8, 17, 7, 16), row(1, 2), row(1, 3));
        // (9, 8) stands three times: the most often goes first.
        dueGrammar(of(1, 2, 9, 8, 3, 9, 8, 1, 2, 4, 9, 8), row(17, 16, 3, 16, 17, 4, 16),
                row(9, 8), row(1, 2));
        // Overlapping ones do not count: (1, 1) stands once in 1 1 1, (1, 2) twice.
        dueGrammar(of(1, 1, 1, 2, 0, 1, 2), row(1, 1, 16, 0, 16), row(1, 2));
    }

    private static void promise16To18Wrong() {
        Subject x = of(5, 5, 5, 5);
        due("grammar(-1)", x.grammar(-1), BAD);
        due("grammar(3)", x.grammar(3), BAD);
        due("rule(15, 0)", x.rule(15, 0), BAD);
        due("rule(17, 0)", x.rule(17, 0), BAD);
        due("rule(16, -1)", x.rule(16, -1), BAD);
        due("rule(16, 2)", x.rule(16, 2), BAD);
        CHECKS.due("symbol(-1)", x.symbol(-1), Subject.NO_INDEX);
        CHECKS.due("symbol(2)", x.symbol(2), Subject.NO_INDEX);
        CHECKS.due("symbol of no text", new Subject().symbol(0), Subject.NO_INDEX);
    }

    private static void promise19Length() {
        Subject x = new Subject();
        for (int p = 0; p < 5; p++) {
            due("length", x.length(), p);
            x.sign(p);
        }
        x.sign(99);
        due("length after a wrong sign", x.length(), 5);
        x.wipe();
        due("length after a wipe", x.length(), 0);
    }
}
