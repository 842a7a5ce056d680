/**
 * Long runs of calls beside a model that follows the document's words as plainly as can be.
 */
public final class ModelTest {
    private static final Checks CHECKS = new Checks("ModelTest");
    private static final int RUNS = 150;
    private static final int FULL_RUNS = 12;

    /** Always the same row of numbers, so that a fault shows again. */
    private static final class Dice {
        private long state;

        Dice(long seed) {
            state = seed;
        }

        int below(int bound) {
            state = state * 6364136223846793005L + 1442695040888963407L;
            return (int) ((state >>> 33) % bound);
        }

        /** Mostly least .. most, now and then a little or far outside. */
        int about(int least, int most) {
            int way = below(40);
            if (way == 0) {
                return least - 1 - below(3);
            }
            if (way == 1) {
                return most + 1 + below(3);
            }
            if (way == 2) {
                return below(2) == 0 ? Integer.MIN_VALUE + below(2) : Integer.MAX_VALUE - below(2);
            }
            return least + below(most - least + 1);
        }
    }

    public static void main(String[] args) {
        someLogsToAllDigits();
        allLogsToMostDigits();
        for (int run = 0; run < RUNS; run++) {
            new Run(run).play();
        }
        for (int run = 0; run < FULL_RUNS; run++) {
            new Run(run).playFull();
            new Run(run).playBehindAFullText();
        }
        CHECKS.end();
    }

    private static void someLogsToAllDigits() {
        for (int n = 1; n <= 1048576; n = n < 1100 ? n + 1 : n + 997) {
            Subject x = new Subject();
            for (int d = 0; d <= 24; d++) {
                CHECKS.due("low log of " + n + " to " + d, x.log(n, d, 0), Model.low(n, d));
                CHECKS.due("high log of " + n + " to " + d, x.log(n, d, 1), Model.high(n, d));
            }
        }
    }

    /** A sum for each object, since a check for each of the million would be slow. */
    private static void allLogsToMostDigits() {
        for (int first = 1; first <= 1048576; first += 256) {
            Subject x = new Subject();
            long got = 0;
            long want = 0;
            for (int n = first; n < first + 256; n++) {
                got = 31 * (31 * got + x.log(n, 24, 0)) + x.log(n, 24, 1);
                want = 31 * (31 * want + Model.low(n, 24)) + Model.high(n, 24);
            }
            CHECKS.due("logs of " + first + " and 255 more", got, want);
        }
    }

    /** One run of calls on new objects and on a new model. */
    private static final class Run {
        private final int number;
        private final Dice dice;
        private final Model model = new Model();
        private final int signs;
        private final int period;
        private Subject x = new Subject();

        Run(int number) {
            this.number = number;
            dice = new Dice(number * 7919L + 5);
            signs = 1 + dice.below(16);
            period = dice.below(3) == 0 ? 1 + dice.below(30) : 0;
        }

        void play() {
            int growth = 20 + dice.below(75);
            while (x.callsLeft() >= 2) {
                if (dice.below(100) < growth) {
                    addSign(nextSign());
                } else {
                    anyCall();
                }
            }
        }

        /** A full text, then every row of answers over all of it. */
        void playFull() {
            fill();
            for (int s = 0; s < 16; s++) {
                setWeight(s, dice.below(1001));
            }
            for (int k = 0; k < 4; k++) {
                setOrder(k);
                for (int kind = 0; kind < 3; kind++) {
                    askCost(kind, dice.below(25), dice.below(2));
                    askDigits(kind, dice.below(3000));
                }
                for (int c = 0; c < 400; c++) {
                    askContext(c, dice.below(3));
                    askCount(c, dice.below(17) - 1);
                }
            }
            for (int i = 0; i < 401; i++) {
                for (int what = 0; what < 3; what++) {
                    askPiece(0, i, what);
                    askPiece(1, i, what);
                }
                askSymbol(i);
                askRule(i, 0);
                askRule(i, 1);
            }
        }

        /** A full text, a wipe, and calls on the short text that comes then. */
        void playBehindAFullText() {
            fill();
            anyCall();
            CHECKS.due(told("wipe"), x.wipe(), model.wipe());
            while (x.callsLeft() >= 2) {
                if (dice.below(3) == 0) {
                    addSign(nextSign());
                } else {
                    anyCall();
                }
            }
        }

        private void fill() {
            for (int p = 0; p < 401; p++) {
                addSign(nextSign());
            }
        }

        private int nextSign() {
            boolean repeat = period > 0 && model.text.size() >= period && dice.below(50) > 0;
            return repeat ? model.text.get(model.text.size() - period) : dice.below(signs);
        }

        /** The object, or, if it has had its calls, a new one that has been brought as far. */
        private Subject x() {
            if (x.callsLeft() == 0) {
                x = new Subject();
                for (int s : model.text) {
                    x.sign(s);
                }
                for (int s = 0; s < 16; s++) {
                    x.weight(s, model.weights[s]);
                }
                x.order(model.order);
            }
            return x;
        }

        private String told(String call, int... arguments) {
            StringBuilder told = new StringBuilder("run " + number + ": " + call);
            for (int argument : arguments) {
                told.append(' ').append(argument);
            }
            return told.toString();
        }

        private void addSign(int s) {
            CHECKS.due(told("sign", s), x().sign(s), model.sign(s));
        }

        private void setOrder(int k) {
            CHECKS.due(told("order", k), x().order(k), model.order(k));
        }

        private void setWeight(int s, int w) {
            CHECKS.due(told("weight", s, w), x().weight(s, w), model.weight(s, w));
        }

        private void askCost(int kind, int d, int side) {
            CHECKS.due(told("cost", kind, d, side), x().cost(kind, d, side), model.cost(kind, d, side));
        }

        private void askDigits(int kind, int w) {
            CHECKS.due(told("digits", kind, w), x().digits(kind, w), model.digits(kind, w));
        }

        private void askContext(int c, int j) {
            CHECKS.due(told("context", c, j), x().context(c, j), model.context(c, j));
        }

        private void askCount(int c, int s) {
            CHECKS.due(told("count", c, s), x().count(c, s), model.count(c, s));
        }

        private void askPiece(int kind, int i, int what) {
            CHECKS.due(told("piece", kind, i, what), x().piece(kind, i, what), model.piece(kind, i, what));
        }

        private void askRule(int rule, int side) {
            CHECKS.due(told("rule", rule, side), x().rule(rule, side), model.rule(rule, side));
        }

        private void askSymbol(int i) {
            CHECKS.due(told("symbol", i), x().symbol(i), model.symbol(i));
        }

        private void anyCall() {
            int a = dice.about(0, 2);
            int b = dice.about(0, 15);
            switch (dice.below(20)) {
                case 0 -> addSign(b);
                case 1 -> {
                    if (dice.below(6) == 0) {
                        CHECKS.due(told("wipe"), x.wipe(), model.wipe());
                    }
                }
                case 2 -> setOrder(dice.about(0, 3));
                case 3 -> askContext(dice.about(0, 20), a);
                case 4 -> askCount(dice.about(0, 20), dice.about(-1, 15));
                case 5, 6 -> setWeight(b, dice.below(5) == 0 ? dice.about(0, 1000) : dice.about(0, 6));
                case 7 -> CHECKS.due(told("share", b), x.share(b), model.share(b));
                case 8, 9 -> askCost(a, dice.about(0, 24), dice.about(0, 1));
                case 10, 11 -> askDigits(a, dice.below(2) == 0 ? dice.about(0, 1000000) : dice.about(0, 9));
                case 12 -> CHECKS.due(told("width", a, b), x.width(a, b), model.width(a, b));
                case 13 -> CHECKS.due(told("bits", a), x.bits(a), model.bits(a));
                case 14 -> CHECKS.due(told("pieces", a), x.pieces(a), model.pieces(a));
                case 15, 16 -> askPiece(dice.about(0, 1), dice.about(0, 40), a);
                case 17 -> CHECKS.due(told("grammar", a), x.grammar(a), model.grammar(a));
                case 18 -> askRule(dice.about(14, 40), dice.about(0, 1));
                default -> {
                    askSymbol(dice.about(0, 50));
                    CHECKS.due(told("length"), x.length(), model.text.size());
                }
            }
        }
    }
}
