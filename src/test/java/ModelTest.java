import java.util.ArrayList;
import java.util.Collections;
import java.util.LinkedHashMap;
import java.util.List;
import java.util.Map;
import java.util.stream.IntStream;

/**
 * Long runs of calls beside a model that follows the document's words as plainly as can be:
 * every answer comes from the whole text anew, and only what is dear to find is kept until the
 * text or the order changes.
 */
public final class ModelTest {
    private static final Checks CHECKS = new Checks("ModelTest");
    private static final int RUNS = 150;
    private static final int CALLS = 512;

    /** Always the same row of numbers, so that a fault shows again. */
    private static final class Dice {
        private long state;

        Dice(long seed) {
            state = seed;
        }

        int below(int bound) {
            state = state * 6364136223846793005L + 1442695040888963407L;
            return (int) ((state >>> 33) % bound);
        }

        /** Mostly least .. most, now and then a little or far outside. */
        int about(int least, int most) {
            int way = below(40);
            if (way == 0) {
                return least - 1 - below(3);
            }
            if (way == 1) {
                return most + 1 + below(3);
            }
            if (way == 2) {
                return below(2) == 0 ? Integer.MIN_VALUE + below(2) : Integer.MAX_VALUE - below(2);
            }
            return least + below(most - least + 1);
        }
    }

    public static void main(String[] args) {
        allLogs();
        for (int run = 0; run < RUNS; run++) {
            new Run(run).play();
        }
        for (int run = 0; run < 12; run++) {
            new Run(run).playFull();
        }
        CHECKS.end();
    }

    private static void allLogs() {
        EntropyBounds x = new EntropyBounds();
        Model model = new Model();
        for (int n = 1; n <= 1048576; n = n < 1100 ? n + 1 : n + 997) {
            for (int d = 0; d <= 24; d++) {
                CHECKS.due("low log of " + n, x.log(n, d, 0), model.low(n, d));
                CHECKS.due("high log of " + n, x.log(n, d, 1), model.high(n, d));
            }
        }
    }

    /** One run of calls on a new object and on a new model. */
    private static final class Run {
        private final int number;
        private final Dice dice;
        private final EntropyBounds x = new EntropyBounds();
        private final Model model = new Model();
        private final int signs;
        private final int period;

        Run(int number) {
            this.number = number;
            dice = new Dice(number * 7919L + 5);
            signs = 1 + dice.below(16);
            period = dice.below(3) == 0 ? 1 + dice.below(30) : 0;
        }

        void play() {
            int growth = 20 + dice.below(75);
            for (int call = 0; call < CALLS; call++) {
                if (dice.below(100) < growth) {
                    addSign(nextSign());
                } else {
                    anyCall();
                }
            }
        }

        /** A full text, then every row of answers over all of it. */
        void playFull() {
            for (int p = 0; p < 401; p++) {
                addSign(nextSign());
            }
            for (int s = 0; s < 16; s++) {
                setWeight(s, dice.below(1001));
            }
            for (int k = 0; k < 4; k++) {
                CHECKS.due(told("order", k), x.order(k), model.order(k));
                for (int kind = 0; kind < 3; kind++) {
                    askCost(kind, dice.below(25), dice.below(2));
                    askDigits(kind, dice.below(3000));
                }
                for (int c = 0; c < 400; c++) {
                    askContext(c, dice.below(3));
                    askCount(c, dice.below(17) - 1);
                }
            }
            for (int i = 0; i < 401; i++) {
                askPiece(0, i, 0);
                askPiece(0, i, 1);
                askPiece(0, i, 2);
                askPiece(1, i, 0);
                askPiece(1, i, 1);
                askPiece(1, i, 2);
                CHECKS.due(told("symbol", i), Checks.symbol(x, i), model.symbol(i));
                CHECKS.due(told("rule", i), x.rule(i, 0), model.rule(i, 0));
                CHECKS.due(told("rule", i), x.rule(i, 1), model.rule(i, 1));
            }
        }

        private int nextSign() {
            boolean repeat = period > 0 && model.text.size() >= period && dice.below(50) > 0;
            return repeat ? model.text.get(model.text.size() - period) : dice.below(signs);
        }

        private String told(String call, int... arguments) {
            StringBuilder told = new StringBuilder("run " + number + ": " + call);
            for (int argument : arguments) {
                told.append(' ').append(argument);
            }
            return told.toString();
        }

        private void addSign(int s) {
            CHECKS.due(told("sign", s), x.sign(s), model.sign(s));
        }

        private void setWeight(int s, int w) {
            CHECKS.due(told("weight", s, w), x.weight(s, w), model.weight(s, w));
        }

        private void askCost(int kind, int d, int side) {
            CHECKS.due(told("cost", kind, d, side), x.cost(kind, d, side), model.cost(kind, d, side));
        }

        private void askDigits(int kind, int w) {
            CHECKS.due(told("digits", kind, w), x.digits(kind, w), model.digits(kind, w));
        }

        private void askContext(int c, int j) {
            CHECKS.due(told("context", c, j), x.context(c, j), model.context(c, j));
        }

        private void askCount(int c, int s) {
            CHECKS.due(told("count", c, s), x.count(c, s), model.count(c, s));
        }

        private void askPiece(int kind, int i, int what) {
            CHECKS.due(told("piece", kind, i, what), x.piece(kind, i, what), model.piece(kind, i, what));
        }

        private void anyCall() {
            int a = dice.about(0, 2);
            int b = dice.about(0, 15);
            switch (dice.below(20)) {
                case 0 -> addSign(b);
                case 1 -> {
                    if (dice.below(6) == 0) {
                        CHECKS.due(told("wipe"), x.wipe(), model.wipe());
                    }
                }
                case 2 -> {
                    int k = dice.about(0, 3);
                    CHECKS.due(told("order", k), x.order(k), model.order(k));
                }
                case 3 -> askContext(dice.about(0, 20), a);
                case 4 -> askCount(dice.about(0, 20), dice.about(-1, 15));
                case 5, 6 -> setWeight(b, dice.below(5) == 0 ? dice.about(0, 1000) : dice.about(0, 6));
                case 7 -> CHECKS.due(told("share", b), Checks.share(x, b), model.share(b));
                case 8, 9 -> askCost(a, dice.about(0, 24), dice.about(0, 1));
                case 10, 11 -> askDigits(a, dice.below(2) == 0 ? dice.about(0, 1000000) : dice.about(0, 9));
                case 12 -> CHECKS.due(told("width", a, b), x.width(a, b), model.width(a, b));
                case 13 -> CHECKS.due(told("bits", a), x.bits(a), model.bits(a));
                case 14 -> CHECKS.due(told("pieces", a), x.pieces(a), model.pieces(a));
                case 15, 16 -> askPiece(dice.about(0, 1), dice.about(0, 40), a);
                case 17 -> CHECKS.due(told("grammar", a), x.grammar(a), model.grammar(a));
                case 18 -> {
                    int rule = dice.about(14, 40);
                    int side = dice.about(0, 1);
                    CHECKS.due(told("rule", rule, side), x.rule(rule, side), model.rule(rule, side));
                }
                default -> {
                    int i = dice.about(0, 50);
                    CHECKS.due(told("symbol", i), Checks.symbol(x, i), model.symbol(i));
                    CHECKS.due(told("length"), x.length(), model.text.size());
                }
            }
        }
    }

    /** The document, word by word. */
    private static final class Model {
        private static final int BAD = -1, NONE = -2, FULL = -3;
        final List<Integer> text = new ArrayList<>();
        private final int[] weights = new int[16];
        private int order = 0;
        private Map<List<Integer>, int[]> keptContexts = null;
        private List<int[]> keptFactors = null;
        private List<int[]> keptPhrases = null;
        private List<Integer> keptRow = null;
        private List<List<Integer>> keptRules = null;

        private void forget() {
            keptContexts = null;
            keptFactors = null;
            keptPhrases = null;
            keptRow = null;
        }

        private static boolean out(int n, int least, int most) {
            return n < least || n > most;
        }

        int sign(int s) {
            if (out(s, 0, 15)) {
                return BAD;
            }
            if (text.size() == 400) {
                return FULL;
            }
            text.add(s);
            forget();
            return text.size();
        }

        int wipe() {
            int had = text.size();
            text.clear();
            forget();
            return had;
        }

        /** Of each context, as they come first: how often each sign stands there. */
        private Map<List<Integer>, int[]> contexts() {
            if (keptContexts == null) {
                keptContexts = new LinkedHashMap<>();
                for (int p = order; p < text.size(); p++) {
                    List<Integer> context = List.copyOf(text.subList(p - order, p));
                    keptContexts.computeIfAbsent(context, c -> new int[16])[text.get(p)]++;
                }
            }
            return keptContexts;
        }

        int order(int k) {
            if (out(k, 0, 3)) {
                return BAD;
            }
            order = k;
            forget();
            return contexts().size();
        }

        int context(int c, int j) {
            if (out(c, 0, contexts().size() - 1) || out(j, 0, order - 1)) {
                return BAD;
            }
            return new ArrayList<>(contexts().keySet()).get(c).get(j);
        }

        int count(int c, int s) {
            if (out(c, 0, contexts().size() - 1) || out(s, -1, 15)) {
                return BAD;
            }
            int[] counts = new ArrayList<>(contexts().values()).get(c);
            return s == -1 ? IntStream.of(counts).sum() : counts[s];
        }

        private static int power(int n) {
            int e = 0;
            while (Math.pow(2, e + 1) <= n) {
                e++;
            }
            return e;
        }

        long low(int n, int d) {
            int e = power(n);
            long x = n * (1L << 30 - e);
            long m = 0;
            for (int i = 0; i < d; i++) {
                x = x * x / (1L << 30);
                m = 2 * m;
                if (x >= 1L << 31) {
                    m = m + 1;
                    x = x / 2;
                }
            }
            return e * (1L << d) + m;
        }

        long high(int n, int d) {
            int e = power(n);
            if (n == 1 << e) {
                return e * (1L << d);
            }
            long x = n * (1L << 30 - e);
            long m = 0;
            for (int i = 0; i < d; i++) {
                x = -Math.floorDiv(-(x * x), 1L << 30);
                m = 2 * m;
                if (x >= 1L << 31) {
                    m = m + 1;
                    x = -Math.floorDiv(-x, 2L);
                }
            }
            return e * (1L << d) + m + 1;
        }

        int weight(int s, int w) {
            if (out(s, 0, 15) || out(w, 0, 1000)) {
                return BAD;
            }
            int was = weights[s];
            weights[s] = w;
            return was;
        }

        private int sum() {
            int sum = 0;
            for (int w : weights) {
                sum += w;
            }
            return sum;
        }

        String share(int s) {
            if (out(s, 0, 15)) {
                return "ArrayIndexOutOfBoundsException";
            }
            return sum() == 0 ? "ArithmeticException" : String.valueOf(weights[s] * 1000000L / sum());
        }

        private long part(int part, int whole, int d, int side) {
            if (part == whole) {
                return 0;
            }
            if (side == 1) {
                return high(whole, d) - low(part, d);
            }
            long low = low(whole, d) - high(part, d);
            return low < 0 ? 0 : low;
        }

        private boolean lacksWeight() {
            return text.stream().anyMatch(s -> weights[s] == 0);
        }

        long cost(int kind, int d, int side) {
            if (out(kind, 0, 2) || out(d, 0, 24) || out(side, 0, 1)) {
                return BAD;
            }
            if (kind == 1 && lacksWeight()) {
                return NONE;
            }
            long sum = 0;
            if (kind == 0) {
                for (int[] counts : contexts().values()) {
                    sum += contentOf(counts, d, side);
                }
                return sum;
            }
            for (int p = 0; p < text.size(); p++) {
                int before = Collections.frequency(text.subList(0, p), text.get(p));
                sum += kind == 1
                        ? part(weights[text.get(p)], sum(), d, side)
                        : part(before + 1, p + 16, d, side);
            }
            return sum;
        }

        private long contentOf(int[] counts, int d, int side) {
            long sum = 0;
            int all = IntStream.of(counts).sum();
            for (int n : counts) {
                sum += n == 0 ? 0 : n * part(n, all, d, side);
            }
            return sum;
        }

        int digits(int kind, int w) {
            if (out(kind, 0, 2) || out(w, 0, 1000000)) {
                return BAD;
            }
            if (kind == 1 && lacksWeight()) {
                return NONE;
            }
            for (int d = 0; d <= 24; d++) {
                if ((cost(kind, d, 1) - cost(kind, d, 0)) * 1024 <= w * (1L << d)) {
                    return d;
                }
            }
            return NONE;
        }

        private record Tree(int number, List<Integer> signs) {
        }

        private int wordWidth(int s) {
            List<Tree> trees = new ArrayList<>();
            for (int t = 0; t < 16; t++) {
                if (text.contains(t)) {
                    trees.add(new Tree(Collections.frequency(text, t), List.of(t)));
                }
            }
            if (trees.size() == 1) {
                return text.contains(s) ? 1 : 0;
            }
            int width = 0;
            while (trees.size() >= 2) {
                Tree first = takeLeast(trees);
                Tree second = takeLeast(trees);
                List<Integer> both = new ArrayList<>(first.signs());
                both.addAll(second.signs());
                trees.add(new Tree(first.number() + second.number(), both));
                width += both.contains(s) ? 1 : 0;
            }
            return width;
        }

        private static Tree takeLeast(List<Tree> trees) {
            int least = 0;
            for (int i = 1; i < trees.size(); i++) {
                if (trees.get(i).number() < trees.get(least).number()) {
                    least = i;
                }
            }
            return trees.remove(least);
        }

        int width(int kind, int s) {
            if (out(kind, 0, 1) || out(s, 0, 15)) {
                return BAD;
            }
            if (kind == 0) {
                return wordWidth(s);
            }
            int n = Collections.frequency(text, s);
            int w = 0;
            while (n > 0 && Math.pow(2, w) * n < text.size()) {
                w++;
            }
            return w;
        }

        int bits(int kind) {
            if (out(kind, 0, 1)) {
                return BAD;
            }
            int sum = 0;
            for (int s : text) {
                sum += width(kind, s);
            }
            return sum;
        }

        private String asString() {
            StringBuilder row = new StringBuilder();
            for (int s : text) {
                row.append((char) ('a' + s));
            }
            return row.toString();
        }

        private List<int[]> factors() {
            String row = asString();
            List<int[]> all = new ArrayList<>();
            int p = 0;
            while (p < row.length()) {
                int size = row.length() - p;
                while (size > 0 && row.indexOf(row.substring(p, p + size)) >= p) {
                    size--;
                }
                int from = size == 0 ? NONE : row.indexOf(row.substring(p, p + size));
                all.add(new int[] {p, Math.max(size, 1), from});
                p += Math.max(size, 1);
            }
            return all;
        }

        private List<int[]> phrases() {
            String row = asString();
            List<int[]> all = new ArrayList<>();
            List<String> before = new ArrayList<>();
            int p = 0;
            while (p < row.length()) {
                int size = 1;
                while (p + size < row.length() && before.contains(row.substring(p, p + size))) {
                    size++;
                }
                String run = row.substring(p, p + size);
                int from = before.indexOf(before.contains(run) ? run : run.substring(0, size - 1));
                all.add(new int[] {p, size, from < 0 ? NONE : from});
                before.add(run);
                p += size;
            }
            return all;
        }

        int pieces(int kind) {
            return out(kind, 0, 1) ? BAD : cut(kind).size();
        }

        int piece(int kind, int i, int what) {
            if (out(kind, 0, 1) || out(i, 0, pieces(kind) - 1) || out(what, 0, 2)) {
                return BAD;
            }
            return cut(kind).get(i)[what];
        }

        private List<int[]> cut(int kind) {
            if (keptFactors == null || keptPhrases == null) {
                keptFactors = factors();
                keptPhrases = phrases();
            }
            return kind == 0 ? keptFactors : keptPhrases;
        }

        private void replacePairs() {
            if (keptRow != null) {
                return;
            }
            List<Integer> row = new ArrayList<>(text);
            List<List<Integer>> rules = new ArrayList<>();
            List<Integer> pair = mostOften(row);
            while (pair != null) {
                for (int p = 0; p + 1 < row.size(); p++) {
                    if (row.subList(p, p + 2).equals(pair)) {
                        row.set(p, 16 + rules.size());
                        row.remove(p + 1);
                    }
                }
                rules.add(pair);
                pair = mostOften(row);
            }
            keptRow = row;
            keptRules = rules;
        }

        private static List<Integer> mostOften(List<Integer> row) {
            Map<List<Integer>, Integer> numbers = new LinkedHashMap<>();
            for (int p = 0; p + 1 < row.size(); p++) {
                List<Integer> pair = List.of(row.get(p), row.get(p + 1));
                numbers.computeIfAbsent(pair, of -> standsIn(row, of));
            }
            return numbers.keySet().stream().filter(pair -> numbers.get(pair) >= 2)
                    .min((a, b) -> numbers.get(a).equals(numbers.get(b))
                            ? (a.get(0) * 1000 + a.get(1)) - (b.get(0) * 1000 + b.get(1))
                            : numbers.get(b) - numbers.get(a))
                    .orElse(null);
        }

        private static int standsIn(List<Integer> row, List<Integer> pair) {
            int n = 0;
            for (int p = 0; p + 1 < row.size(); p++) {
                if (row.subList(p, p + 2).equals(pair)) {
                    n++;
                    p++;
                }
            }
            return n;
        }

        int grammar(int what) {
            if (out(what, 0, 2)) {
                return BAD;
            }
            replacePairs();
            int rules = keptRules.size();
            return what == 0 ? keptRow.size() + 2 * rules : what == 1 ? rules : keptRow.size();
        }

        int rule(int number, int side) {
            replacePairs();
            boolean wrong = out(number, 16, 15 + keptRules.size()) || out(side, 0, 1);
            return wrong ? BAD : keptRules.get(number - 16).get(side);
        }

        String symbol(int i) {
            replacePairs();
            boolean wrong = out(i, 0, keptRow.size() - 1);
            return wrong ? "ArrayIndexOutOfBoundsException" : String.valueOf(keptRow.get(i));
        }
    }
}
