import java.util.ArrayList;
import java.util.Collections;
import java.util.LinkedHashMap;
import java.util.List;
import java.util.Map;
import java.util.stream.IntStream;

/**
 * The document, word by word: every answer comes from the whole text anew, and only what is
 * dear to find is kept until the text or the order changes.
 */
final class Model {
    private static final int BAD = Subject.BAD, NONE = Subject.NONE, FULL = Subject.FULL;
    final List<Integer> text = new ArrayList<>();
    final int[] weights = new int[16];
    int order = 0;
    private Map<List<Integer>, int[]> keptContexts = null;
    private List<int[]> keptFactors = null;
    private List<int[]> keptPhrases = null;
    private List<Integer> keptRow = null;
    private List<List<Integer>> keptRules = null;

    private void forget() {
        keptContexts = null;
        keptFactors = null;
        keptPhrases = null;
        keptRow = null;
    }

    private static boolean out(int n, int least, int most) {
        return n < least || n > most;
    }

    int sign(int s) {
        if (out(s, 0, 15)) {
            return BAD;
        }
        if (text.size() == 400) {
            return FULL;
        }
        text.add(s);
        forget();
        return text.size();
    }

    int wipe() {
        int had = text.size();
        text.clear();
        forget();
        return had;
    }

    /** Of each context, as they come first: how often each sign stands there. */
    private Map<List<Integer>, int[]> contexts() {
        if (keptContexts == null) {
            keptContexts = new LinkedHashMap<>();
            for (int p = order; p < text.size(); p++) {
                List<Integer> context = List.copyOf(text.subList(p - order, p));
                keptContexts.computeIfAbsent(context, c -> new int[16])[text.get(p)]++;
            }
        }
        return keptContexts;
    }

    int order(int k) {
        if (out(k, 0, 3)) {
            return BAD;
        }
        order = k;
        forget();
        return contexts().size();
    }

    int context(int c, int j) {
        if (out(c, 0, contexts().size() - 1) || out(j, 0, order - 1)) {
            return BAD;
        }
        return new ArrayList<>(contexts().keySet()).get(c).get(j);
    }

    int count(int c, int s) {
        if (out(c, 0, contexts().size() - 1) || out(s, -1, 15)) {
            return BAD;
        }
        int[] counts = new ArrayList<>(contexts().values()).get(c);
        return s == -1 ? IntStream.of(counts).sum() : counts[s];
    }

    private static int power(int n) {
        int e = 0;
        while (Math.pow(2, e + 1) <= n) {
            e++;
        }
        return e;
    }

    static long low(int n, int d) {
        int e = power(n);
        long x = n * (1L << 30 - e);
        long m = 0;
        for (int i = 0; i < d; i++) {
            x = x * x / (1L << 30);
            m = 2 * m;
            if (x >= 1L << 31) {
                m = m + 1;
                x = x / 2;
            }
        }
        return e * (1L << d) + m;
    }

    static long high(int n, int d) {
        int e = power(n);
        if (n == 1 << e) {
            return e * (1L << d);
        }
        long x = n * (1L << 30 - e);
        long m = 0;
        for (int i = 0; i < d; i++) {
            x = -Math.floorDiv(-(x * x), 1L << 30);
            m = 2 * m;
            if (x >= 1L << 31) {
                m = m + 1;
                x = -Math.floorDiv(-x, 2L);
            }
        }
        return e * (1L << d) + m + 1;
    }

    int weight(int s, int w) {
        if (out(s, 0, 15) || out(w, 0, 1000)) {
            return BAD;
        }
        int was = weights[s];
        weights[s] = w;
        return was;
    }

    private int sum() {
        int sum = 0;
        for (int w : weights) {
            sum += w;
        }
        return sum;
    }

    String share(int s) {
        if (out(s, 0, 15)) {
            return Subject.NO_INDEX;
        }
        return sum() == 0 ? Subject.NO_QUOTIENT : String.valueOf(weights[s] * 1000000L / sum());
    }

    private static long part(int part, int whole, int d, int side) {
        if (part == whole) {
            return 0;
        }
        if (side == 1) {
            return high(whole, d) - low(part, d);
        }
        long low = low(whole, d) - high(part, d);
        return low < 0 ? 0 : low;
    }

    private boolean lacksWeight() {
        return text.stream().anyMatch(s -> weights[s] == 0);
    }

    long cost(int kind, int d, int side) {
        if (out(kind, 0, 2) || out(d, 0, 24) || out(side, 0, 1)) {
            return BAD;
        }
        if (kind == 1 && lacksWeight()) {
            return NONE;
        }
        long sum = 0;
        if (kind == 0) {
            for (int[] counts : contexts().values()) {
                sum += contentOf(counts, d, side);
            }
            return sum;
        }
        for (int p = 0; p < text.size(); p++) {
            int before = Collections.frequency(text.subList(0, p), text.get(p));
            sum += kind == 1
                    ? part(weights[text.get(p)], sum(), d, side)
                    : part(before + 1, p + 16, d, side);
        }
        return sum;
    }

    private static long contentOf(int[] counts, int d, int side) {
        long sum = 0;
        int all = IntStream.of(counts).sum();
        for (int n : counts) {
            sum += n == 0 ? 0 : n * part(n, all, d, side);
        }
        return sum;
    }

    int digits(int kind, int w) {
        if (out(kind, 0, 2) || out(w, 0, 1000000)) {
            return BAD;
        }
        if (kind == 1 && lacksWeight()) {
            return NONE;
        }
        for (int d = 0; d <= 24; d++) {
            if ((cost(kind, d, 1) - cost(kind, d, 0)) * 1024 <= w * (1L << d)) {
                return d;
            }
        }
        return NONE;
    }

    private record Tree(int number, List<Integer> signs) {
    }

    private int wordWidth(int s) {
        List<Tree> trees = new ArrayList<>();
        for (int t = 0; t < 16; t++) {
            if (text.contains(t)) {
                trees.add(new Tree(Collections.frequency(text, t), List.of(t)));
            }
        }
        if (trees.size() == 1) {
            return text.contains(s) ? 1 : 0;
        }
        int width = 0;
        while (trees.size() >= 2) {
            Tree first = takeLeast(trees);
            Tree second = takeLeast(trees);
            List<Integer> both = new ArrayList<>(first.signs());
            both.addAll(second.signs());
            trees.add(new Tree(first.number() + second.number(), both));
            width += both.contains(s) ? 1 : 0;
        }
        return width;
    }

    private static Tree takeLeast(List<Tree> trees) {
        int least = 0;
        for (int i = 1; i < trees.size(); i++) {
            if (trees.get(i).number() < trees.get(least).number()) {
                least = i;
            }
        }
        return trees.remove(least);
    }

    int width(int kind, int s) {
        if (out(kind, 0, 1) || out(s, 0, 15)) {
            return BAD;
        }
        if (kind == 0) {
            return wordWidth(s);
        }
        int n = Collections.frequency(text, s);
        int w = 0;
        while (n > 0 && Math.pow(2, w) * n < text.size()) {
            w++;
        }
        return w;
    }

    int bits(int kind) {
        if (out(kind, 0, 1)) {
            return BAD;
        }
        int sum = 0;
        for (int s : text) {
            sum += width(kind, s);
        }
        return sum;
    }

    private String asString() {
        StringBuilder row = new StringBuilder();
        for (int s : text) {
            row.append((char) ('a' + s));
        }
        return row.toString();
    }

    private List<int[]> factors() {
        String row = asString();
        List<int[]> all = new ArrayList<>();
        int p = 0;
        while (p < row.length()) {
            int size = row.length() - p;
            while (size > 0 && row.indexOf(row.substring(p, p + size)) >= p) {
                size--;
            }
            int from = size == 0 ? NONE : row.indexOf(row.substring(p, p + size));
            all.add(new int[] {p, Math.max(size, 1), from});
            p += Math.max(size, 1);
        }
        return all;
    }

    private List<int[]> phrases() {
        String row = asString();
        List<int[]> all = new ArrayList<>();
        List<String> before = new ArrayList<>();
        int p = 0;
        while (p < row.length()) {
            int size = 1;
            while (p + size < row.length() && before.contains(row.substring(p, p + size))) {
                size++;
            }
            String run = row.substring(p, p + size);
            int from = before.indexOf(before.contains(run) ? run : run.substring(0, size - 1));
            all.add(new int[] {p, size, from < 0 ? NONE : from});
            before.add(run);
            p += size;
        }
        return all;
    }

    int pieces(int kind) {
        return out(kind, 0, 1) ? BAD : cut(kind).size();
    }

    int piece(int kind, int i, int what) {
        if (out(kind, 0, 1) || out(i, 0, pieces(kind) - 1) || out(what, 0, 2)) {
            return BAD;
        }
        return cut(kind).get(i)[what];
    }

    private List<int[]> cut(int kind) {
        if (keptFactors == null || keptPhrases == null) {
            keptFactors = factors();
            keptPhrases = phrases();
        }
        return kind == 0 ? keptFactors : keptPhrases;
    }

    private void replacePairs() {
        if (keptRow != null) {
            return;
        }
        List<Integer> row = new ArrayList<>(text);
        List<List<Integer>> rules = new ArrayList<>();
        List<Integer> pair = mostOften(row);
        while (pair != null) {
            for (int p = 0; p + 1 < row.size(); p++) {
                if (row.subList(p, p + 2).equals(pair)) {
                    row.set(p, 16 + rules.size());
                    row.remove(p + 1);
                }
            }
            rules.add(pair);
            pair = mostOften(row);
        }
        keptRow = row;
        keptRules = rules;
    }

    private static List<Integer> mostOften(List<Integer> row) {
        Map<List<Integer>, Integer> numbers = new LinkedHashMap<>();
        for (int p = 0; p + 1 < row.size(); p++) {
            List<Integer> pair = List.of(row.get(p), row.get(p + 1));
            numbers.computeIfAbsent(pair, of -> standsIn(row, of));
        }
        return numbers.keySet().stream().filter(pair -> numbers.get(pair) >= 2)
                .min((a, b) -> numbers.get(a).equals(numbers.get(b))
                        ? (a.get(0) * 1000 + a.get(1)) - (b.get(0) * 1000 + b.get(1))
                        : numbers.get(b) - numbers.get(a))
                .orElse(null);
    }

    private static int standsIn(List<Integer> row, List<Integer> pair) {
        int n = 0;
        for (int p = 0; p + 1 < row.size(); p++) {
            if (row.subList(p, p + 2).equals(pair)) {
                n++;
                p++;
            }
        }
        return n;
    }

    int grammar(int what) {
        if (out(what, 0, 2)) {
            return BAD;
        }
        replacePairs();
        int rules = keptRules.size();
        return what == 0 ? keptRow.size() + 2 * rules : what == 1 ? rules : keptRow.size();
    }

    int rule(int number, int side) {
        replacePairs();
        boolean wrong = out(number, 16, 15 + keptRules.size()) || out(side, 0, 1);
        return wrong ? BAD : keptRules.get(number - 16).get(side);
    }

    String symbol(int i) {
        replacePairs();
        boolean wrong = out(i, 0, keptRow.size() - 1);
        return wrong ? Subject.NO_INDEX : String.valueOf(keptRow.get(i));
    }
}
