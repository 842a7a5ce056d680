import java.util.Arrays;

/**
 * What a text of signs contains: counts of contexts, logs and costs between two whole ends,
 * words, factors, phrases and a grammar. The promises stand in DOC.md.
 *
 * <p>Every row is made once, with the object, and used again by all later calls. What is
 * derived from the text is worked out only when it is asked for after the text has changed.
 */
public final class EntropyBounds {
    public static final int BAD = -1, NONE = -2, FULL = -3;

    private static final int SIGNS = 16;
    private static final int SIGN_BITS = 4;
    private static final int TEXT_LIMIT = 400;
    private static final int ORDER_LIMIT = 3;
    private static final int WEIGHT_LIMIT = 1000;
    private static final int LOG_LIMIT = 1048576;
    private static final int DIGITS_LIMIT = 24;
    private static final int GAP_LIMIT = 1000000;
    private static final long GAP_PARTS = 1024;
    private static final long SHARE_PARTS = 1000000;

    private static final int LOW = 0, HIGH = 1;
    private static final int CONTENT = 0, CROSS = 1, GROWING = 2;
    private static final int WORD = 0, STEP = 1;
    private static final int FACTOR = 0, PHRASE = 1;

    private final Text text = new Text();
    private final Weights weights = new Weights();
    private final Contexts contexts = new Contexts();
    private final Costs costs = new Costs();
    private final Words words = new Words();
    private final Factors factors = new Factors();
    private final Phrases phrases = new Phrases();
    private final Grammar rules = new Grammar();

    public EntropyBounds() {
    }

    public int sign(int s) {
        if (!isSign(s)) {
            return BAD;
        }
        if (text.size >= TEXT_LIMIT) {
            return FULL;
        }
        text.append(s);
        return text.size;
    }

    public int wipe() {
        int had = text.size;
        text.clear();
        return had;
    }

    public int order(int k) {
        if (!within(k, 0, ORDER_LIMIT)) {
            return BAD;
        }
        contexts.setOrder(k);
        contexts.follow(text);
        return contexts.known;
    }

    public int context(int c, int j) {
        contexts.follow(text);
        if (!within(c, 0, contexts.known - 1) || !within(j, 0, contexts.order - 1)) {
            return BAD;
        }
        return contexts.signOf(c, j);
    }

    public int count(int c, int s) {
        contexts.follow(text);
        if (!within(c, 0, contexts.known - 1) || !within(s, -1, SIGNS - 1)) {
            return BAD;
        }
        return s == -1 ? contexts.alls[c] : contexts.countOf(c, s);
    }

    public long log(int n, int digits, int side) {
        if (!within(n, 1, LOG_LIMIT) || !within(digits, 0, DIGITS_LIMIT) || !isSide(side)) {
            return BAD;
        }
        return costs.logs.end(n, digits, side);
    }

    public int weight(int s, int w) {
        if (!isSign(s) || !within(w, 0, WEIGHT_LIMIT)) {
            return BAD;
        }
        return weights.replace(s, w);
    }

    /** The document names the machine's own exceptions; they are thrown here before it would. */
    public long share(int s) throws ArithmeticException, ArrayIndexOutOfBoundsException {
        if (!isSign(s)) {
            throw new ArrayIndexOutOfBoundsException("no such sign");
        }
        if (weights.sum == 0) {
            throw new ArithmeticException("/ by zero");
        }
        return weights.of[s] * SHARE_PARTS / weights.sum;
    }

    public long cost(int kind, int digits, int side) {
        if (!isCostKind(kind) || !within(digits, 0, DIGITS_LIMIT) || !isSide(side)) {
            return BAD;
        }
        if (kind == CROSS && !weights.cover(text)) {
            return NONE;
        }
        return costOfKind(kind, digits, side);
    }

    public int digits(int kind, int w) {
        if (!isCostKind(kind) || !within(w, 0, GAP_LIMIT)) {
            return BAD;
        }
        if (kind == CROSS && !weights.cover(text)) {
            return NONE;
        }
        for (int d = 0; d <= DIGITS_LIMIT; d++) {
            long gap = costOfKind(kind, d, HIGH) - costOfKind(kind, d, LOW);
            if (gap * GAP_PARTS <= (long) w << d) {
                return d;
            }
        }
        return NONE;
    }

    public int width(int kind, int s) {
        if (!within(kind, WORD, STEP) || !isSign(s)) {
            return BAD;
        }
        words.follow(text);
        return widthOfKind(kind, s);
    }

    public int bits(int kind) {
        if (!within(kind, WORD, STEP)) {
            return BAD;
        }
        words.follow(text);
        int sum = 0;
        for (int s = 0; s < SIGNS; s++) {
            sum += text.totals[s] * widthOfKind(kind, s);
        }
        return sum;
    }

    public int pieces(int kind) {
        if (!within(kind, FACTOR, PHRASE)) {
            return BAD;
        }
        return cutPieces(kind).total;
    }

    public int piece(int kind, int i, int what) {
        if (!within(kind, FACTOR, PHRASE) || !within(what, 0, 2)) {
            return BAD;
        }
        Pieces cut = cutPieces(kind);
        if (!within(i, 0, cut.total - 1)) {
            return BAD;
        }
        if (what == 0) {
            return cut.places[i];
        }
        return what == 1 ? cut.sizes[i] : cut.sources[i];
    }

    public int grammar(int what) {
        if (!within(what, 0, 2)) {
            return BAD;
        }
        rules.follow(text);
        if (what == 0) {
            return rules.rowSize + 2 * rules.total;
        }
        return what == 1 ? rules.total : rules.rowSize;
    }

    public int rule(int number, int side) {
        rules.follow(text);
        if (!within(number, SIGNS, SIGNS + rules.total - 1) || !isSide(side)) {
            return BAD;
        }
        return side == 0 ? rules.firsts[number - SIGNS] : rules.seconds[number - SIGNS];
    }

    public int symbol(int i) throws ArrayIndexOutOfBoundsException {
        rules.follow(text);
        if (!within(i, 0, rules.rowSize - 1)) {
            throw new ArrayIndexOutOfBoundsException("no such symbol");
        }
        return rules.row[i];
    }

    public int length() {
        return text.size;
    }

    private static boolean within(int value, int least, int most) {
        return value >= least && value <= most;
    }

    private static boolean isSign(int s) {
        return within(s, 0, SIGNS - 1);
    }

    private static boolean isSide(int side) {
        return within(side, 0, 1);
    }

    private static boolean isCostKind(int kind) {
        return within(kind, CONTENT, GROWING);
    }

    private long costOfKind(int kind, int digits, int side) {
        if (kind == CONTENT) {
            contexts.follow(text);
            return costs.content(contexts, digits, side);
        }
        return kind == CROSS
                ? costs.cross(text, weights, digits, side)
                : costs.growing(text, digits, side);
    }

    private int widthOfKind(int kind, int s) {
        return kind == WORD ? words.widths[s] : Words.stepWidth(text.totals[s], text.size);
    }

    private Pieces cutPieces(int kind) {
        Pieces cut = kind == FACTOR ? factors : phrases;
        cut.follow(text);
        return cut;
    }

    /** The signs in their order, and how often each of the 16 is there. */
    private static final class Text {
        final int[] signs = new int[TEXT_LIMIT];
        final int[] totals = new int[SIGNS];
        int size;
        /** Grows with every change, so that what was derived can see that it is out of date. */
        int changes;

        /** The caller has looked that s is a sign and that there is room. */
        void append(int s) {
            signs[size] = s;
            size++;
            totals[s]++;
            changes++;
        }

        void clear() {
            size = 0;
            Arrays.fill(totals, 0);
            changes++;
        }
    }

    /** The weights of the signs and their sum. */
    private static final class Weights {
        final int[] of = new int[SIGNS];
        int sum;

        int replace(int s, int w) {
            int was = of[s];
            of[s] = w;
            sum += w - was;
            return was;
        }

        /** Whether every sign that is in the text has a weight above 0. */
        boolean cover(Text text) {
            for (int s = 0; s < SIGNS; s++) {
                if (text.totals[s] > 0 && of[s] == 0) {
                    return false;
                }
            }
            return true;
        }
    }

    /**
     * The contexts of the text, and an entry for each sign that stands in one of them. Each
     * place of the text brings at most one new context and one new entry, so rows as long as
     * the text hold them all, where a table of contexts by signs would be 16 times as large.
     */
    private static final class Contexts {
        private static final int NEVER = -1;

        final int[] codes = new int[TEXT_LIMIT];
        final int[] alls = new int[TEXT_LIMIT];
        final int[] entryContexts = new int[TEXT_LIMIT];
        final int[] entrySigns = new int[TEXT_LIMIT];
        final int[] entryCounts = new int[TEXT_LIMIT];
        int order;
        int known;
        int entries;
        int seenChanges;

        void setOrder(int k) {
            if (k != order) {
                order = k;
                seenChanges = NEVER;
            }
        }

        void follow(Text text) {
            if (seenChanges == text.changes) {
                return;
            }
            seenChanges = text.changes;
            known = 0;
            entries = 0;
            for (int place = order; place < text.size; place++) {
                int c = numberOf(codeBefore(text, place));
                alls[c]++;
                entryCounts[entryOf(c, text.signs[place])]++;
            }
        }

        int signOf(int c, int j) {
            return codes[c] >> SIGN_BITS * (order - 1 - j) & SIGNS - 1;
        }

        int countOf(int c, int s) {
            int entry = findEntry(c, s);
            return entry < entries ? entryCounts[entry] : 0;
        }

        private int codeBefore(Text text, int place) {
            int code = 0;
            for (int p = place - order; p < place; p++) {
                code = code << SIGN_BITS | text.signs[p];
            }
            return code;
        }

        private int numberOf(int code) {
            for (int c = 0; c < known; c++) {
                if (codes[c] == code) {
                    return c;
                }
            }
            codes[known] = code;
            alls[known] = 0;
            return known++;
        }

        private int entryOf(int c, int s) {
            int entry = findEntry(c, s);
            if (entry == entries) {
                entryContexts[entry] = c;
                entrySigns[entry] = s;
                entryCounts[entry] = 0;
                entries++;
            }
            return entry;
        }

        /** The entry of a sign in a context, or how many entries there are, if it has none. */
        private int findEntry(int c, int s) {
            for (int entry = 0; entry < entries; entry++) {
                if (entryContexts[entry] == c && entrySigns[entry] == s) {
                    return entry;
                }
            }
            return entries;
        }
    }

    /**
     * The two ends of logs. The bits behind the point come one by one and do not depend on how
     * many are told, so the 24 of a number are worked out once and cut to the told digits; for
     * the numbers that counts and places lead to they are kept.
     */
    private static final class Logs {
        private static final int KEPT = TEXT_LIMIT + SIGNS;
        private static final int ONE_BITS = 30;
        private static final long TWO = 1L << ONE_BITS + 1;

        /** One above the bits, so that 0 says that they are not known yet. */
        final int[] kept = new int[2 * KEPT];

        long end(int n, int digits, int side) {
            int e = greatestPower(n);
            long whole = (long) e << digits;
            if (n == 1 << e) {
                return whole;
            }
            long cut = fraction(n, e, side) >> DIGITS_LIMIT - digits;
            return side == HIGH ? whole + cut + 1 : whole + cut;
        }

        private static int greatestPower(int n) {
            int e = 0;
            while (e < ONE_BITS && 1 << e + 1 <= n) {
                e++;
            }
            return e;
        }

        private int fraction(int n, int e, int side) {
            if (n >= KEPT) {
                return fractionBits(n, e, side);
            }
            int slot = side == HIGH ? KEPT + n : n;
            if (kept[slot] == 0) {
                kept[slot] = fractionBits(n, e, side) + 1;
            }
            return kept[slot] - 1;
        }

        private static int fractionBits(int n, int e, int side) {
            long squareUp = side == HIGH ? (1L << ONE_BITS) - 1 : 0;
            long halfUp = side == HIGH ? 1 : 0;
            long x = (long) n << ONE_BITS - e;
            int m = 0;
            for (int d = 0; d < DIGITS_LIMIT; d++) {
                x = x * x + squareUp >> ONE_BITS;
                m = 2 * m;
                if (x >= TWO) {
                    m++;
                    x = x + halfUp >> 1;
                }
            }
            return m;
        }
    }

    /** The costs of the three kinds at one of their ends. */
    private static final class Costs {
        final Logs logs = new Logs();
        final int[] before = new int[SIGNS];

        long content(Contexts contexts, int digits, int side) {
            long sum = 0;
            for (int entry = 0; entry < contexts.entries; entry++) {
                int part = contexts.entryCounts[entry];
                int whole = contexts.alls[contexts.entryContexts[entry]];
                sum += part * partInWhole(part, whole, digits, side);
            }
            return sum;
        }

        /** Places with the same sign cost the same, so each sign is looked at once. */
        long cross(Text text, Weights weights, int digits, int side) {
            long sum = 0;
            for (int s = 0; s < SIGNS; s++) {
                if (text.totals[s] > 0) {
                    sum += text.totals[s] * partInWhole(weights.of[s], weights.sum, digits, side);
                }
            }
            return sum;
        }

        long growing(Text text, int digits, int side) {
            Arrays.fill(before, 0);
            long sum = 0;
            for (int place = 0; place < text.size; place++) {
                int s = text.signs[place];
                before[s]++;
                sum += partInWhole(before[s], place + SIGNS, digits, side);
            }
            return sum;
        }

        private long partInWhole(int part, int whole, int digits, int side) {
            if (part == whole) {
                return 0;
            }
            int otherSide = side == LOW ? HIGH : LOW;
            long less = logs.end(whole, digits, side) - logs.end(part, digits, otherSide);
            return Math.max(less, 0);
        }
    }

    /** The best words' widths of the signs, by joining trees. */
    private static final class Words {
        final int[] widths = new int[SIGNS];
        /** The trees in the order in which they came, by number; 0 of those that were joined. */
        final int[] treeNumbers = new int[2 * SIGNS];
        final int[] treeOfSign = new int[SIGNS];
        int trees;
        int seenChanges;

        void follow(Text text) {
            if (seenChanges == text.changes) {
                return;
            }
            seenChanges = text.changes;
            plantTrees(text);
            if (trees == 1) {
                widenTree(0);
            }
            for (int joins = trees - 1; joins > 0; joins--) {
                joinTwoTrees();
            }
        }

        static int stepWidth(int total, int size) {
            int w = 0;
            // A text of 400 signs has every width below 10; the bound makes the end plain.
            while (total > 0 && w < 10 && total << w < size) {
                w++;
            }
            return w;
        }

        private void plantTrees(Text text) {
            trees = 0;
            for (int s = 0; s < SIGNS; s++) {
                widths[s] = 0;
                treeOfSign[s] = NONE;
                if (text.totals[s] > 0) {
                    treeOfSign[s] = trees;
                    treeNumbers[trees] = text.totals[s];
                    trees++;
                }
            }
        }

        private void joinTwoTrees() {
            int number = takeLeastTree() + takeLeastTree();
            treeNumbers[trees] = number;
            trees++;
        }

        /** The tree's signs go to the tree that is about to be planted behind all others. */
        private int takeLeastTree() {
            int least = 0;
            for (int tree = 1; tree < trees; tree++) {
                boolean gone = treeNumbers[least] == 0;
                boolean less = treeNumbers[tree] < treeNumbers[least];
                if (treeNumbers[tree] > 0 && (gone || less)) {
                    least = tree;
                }
            }
            int number = treeNumbers[least];
            treeNumbers[least] = 0;
            widenTree(least);
            return number;
        }

        private void widenTree(int tree) {
            for (int s = 0; s < SIGNS; s++) {
                if (treeOfSign[s] == tree) {
                    treeOfSign[s] = trees;
                    widths[s]++;
                }
            }
        }
    }

    /** The pieces that a text is cut into, one behind another, each with where it comes from. */
    private abstract static class Pieces {
        final int[] places = new int[TEXT_LIMIT];
        final int[] sizes = new int[TEXT_LIMIT];
        final int[] sources = new int[TEXT_LIMIT];
        int total;
        int seenChanges;

        void follow(Text text) {
            if (seenChanges == text.changes) {
                return;
            }
            seenChanges = text.changes;
            total = 0;
            cut(text);
        }

        abstract void cut(Text text);

        void add(int place, int size, int source) {
            places[total] = place;
            sizes[total] = size;
            sources[total] = source;
            total++;
        }
    }

    /** Each piece is the longest run that stands from an earlier place on too. */
    private static final class Factors extends Pieces {
        void cut(Text text) {
            int next = 0;
            for (int place = 0; place < text.size; place++) {
                if (place == next) {
                    addFactor(text, place);
                    next = place + sizes[total - 1];
                }
            }
        }

        private void addFactor(Text text, int place) {
            int longest = 0;
            int source = NONE;
            for (int earlier = 0; earlier < place; earlier++) {
                int run = commonRun(text, earlier, place);
                if (run > longest) {
                    longest = run;
                    source = earlier;
                }
            }
            add(place, Math.max(longest, 1), source);
        }

        private static int commonRun(Text text, int earlier, int place) {
            int run = 0;
            while (place + run < text.size && text.signs[earlier + run] == text.signs[place + run]) {
                run++;
            }
            return run;
        }
    }

    /** Each piece is a piece before and one sign more, but for the last one perhaps. */
    private static final class Phrases extends Pieces {
        void cut(Text text) {
            int start = 0;
            int phrase = NONE;
            for (int place = 0; place < text.size; place++) {
                int longer = findPhrase(text, phrase, text.signs[place]);
                if (longer == NONE) {
                    add(start, place + 1 - start, phrase);
                    start = place + 1;
                }
                phrase = longer;
            }
            if (start < text.size) {
                add(start, text.size - start, phrase);
            }
        }

        /** The number of the phrase that is another one (NONE: no sign at all) and sign s. */
        private int findPhrase(Text text, int source, int s) {
            for (int i = 0; i < total; i++) {
                int last = places[i] + sizes[i] - 1;
                if (sources[i] == source && text.signs[last] == s) {
                    return i;
                }
            }
            return NONE;
        }
    }

    /** The rules that pairs of the row become, and what is left of the row. */
    private static final class Grammar {
        /** Every rule shortens the row by two symbols at least. */
        static final int RULE_LIMIT = TEXT_LIMIT / 2;

        final Pairs pairs = new Pairs();
        final int[] row = new int[TEXT_LIMIT];
        final int[] firsts = new int[RULE_LIMIT];
        final int[] seconds = new int[RULE_LIMIT];
        int rowSize;
        int total;
        int seenChanges;

        void follow(Text text) {
            if (seenChanges == text.changes) {
                return;
            }
            seenChanges = text.changes;
            System.arraycopy(text.signs, 0, row, 0, text.size);
            rowSize = text.size;
            total = 0;
            boolean repeated = true;
            for (int round = 0; repeated && round < RULE_LIMIT; round++) {
                repeated = addRule();
            }
        }

        private boolean addRule() {
            pairs.tally(row, rowSize);
            int best = pairs.best();
            if (best == NONE) {
                return false;
            }
            firsts[total] = pairs.firsts[best];
            seconds[total] = pairs.seconds[best];
            replacePair(firsts[total], seconds[total], SIGNS + total);
            total++;
            return true;
        }

        private void replacePair(int first, int second, int number) {
            int kept = 0;
            for (int place = 0; place < rowSize; place++) {
                int symbol = row[place];
                if (symbol == first && place + 1 < rowSize && row[place + 1] == second) {
                    symbol = number;
                    place++;
                }
                row[kept] = symbol;
                kept++;
            }
            rowSize = kept;
        }
    }

    /**
     * How often each pair stands in a row. The pairs with the same first symbol are chained,
     * so that a pair is found without a table of all symbols by all symbols.
     */
    private static final class Pairs {
        static final int SYMBOL_LIMIT = SIGNS + TEXT_LIMIT / 2;

        final int[] heads = new int[SYMBOL_LIMIT];
        final int[] nexts = new int[TEXT_LIMIT];
        final int[] firsts = new int[TEXT_LIMIT];
        final int[] seconds = new int[TEXT_LIMIT];
        final int[] counts = new int[TEXT_LIMIT];
        final int[] lastPlaces = new int[TEXT_LIMIT];
        int total;

        void tally(int[] row, int size) {
            Arrays.fill(heads, NONE);
            total = 0;
            for (int place = 0; place + 1 < size; place++) {
                int pair = pairOf(row[place], row[place + 1]);
                if (counts[pair] == 0 || lastPlaces[pair] + 1 < place) {
                    counts[pair]++;
                    lastPlaces[pair] = place;
                }
            }
        }

        /** The pair that becomes a rule next, NONE if none stands at two places. */
        int best() {
            int best = NONE;
            for (int pair = 0; pair < total; pair++) {
                if (counts[pair] >= 2 && (best == NONE || goesBefore(pair, best))) {
                    best = pair;
                }
            }
            return best;
        }

        private boolean goesBefore(int pair, int other) {
            if (counts[pair] != counts[other]) {
                return counts[pair] > counts[other];
            }
            if (firsts[pair] != firsts[other]) {
                return firsts[pair] < firsts[other];
            }
            return seconds[pair] < seconds[other];
        }

        private int pairOf(int first, int second) {
            int pair = heads[first];
            for (int steps = 0; steps < total && pair != NONE; steps++) {
                if (seconds[pair] == second) {
                    return pair;
                }
                pair = nexts[pair];
            }
            firsts[total] = first;
            seconds[total] = second;
            counts[total] = 0;
            nexts[total] = heads[first];
            heads[first] = total;
            return total++;
        }
    }
}
