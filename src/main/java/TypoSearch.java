/** Finds words while a query is typed, forgiving some typos, and ranks them. */
public final class TypoSearch {
    public static final int NONE = -1;
    public static final int FULL = -2;

    private static final int SYMBOLS = 4;
    private static final int MOST_WORDS = 10;
    private static final int MOST_SYMBOLS = 6;
    private static final int SYMBOL_PLACES = MOST_WORDS * MOST_SYMBOLS;
    // One more than the symbols, for the empty beginning.
    private static final int BEGINNINGS = MOST_SYMBOLS + 1;
    private static final int GREATEST_WEIGHT = 9;
    private static final int MOST_TYPOS_TOLD = 3;
    private static final int COST = 1;
    private static final int COST_AT_FIRST = 2;

    // Word w has the six places from w * MOST_SYMBOLS on.
    private final int[] symbols = new int[SYMBOL_PLACES];
    // A word has at least one symbol, so length 0 means that no word has the number.
    private final int[] lengths = new int[MOST_WORDS];
    private final int[] weights = new int[MOST_WORDS];
    private final int[] query = new int[MOST_SYMBOLS];
    private int queryLength = 0;
    // costs[j]: the least cost of editing the part of the query that has been
    // dealt with into the first j symbols of a word.
    private final int[] costs = new int[BEGINNINGS];

    public TypoSearch() {
    }

    public int begin(int s, int weight) {
        if (!isSymbol(s) || !isWeight(weight)) {
            return NONE;
        }
        for (int w = 0; w < MOST_WORDS; w++) {
            if (lengths[w] == 0) {
                symbols[w * MOST_SYMBOLS] = s;
                lengths[w] = 1;
                weights[w] = weight;
                return w;
            }
        }
        return FULL;
    }

    public boolean extend(int w, int s) {
        if (!isWord(w) || !isSymbol(s) || lengths[w] >= MOST_SYMBOLS) {
            return false;
        }
        symbols[w * MOST_SYMBOLS + lengths[w]] = s;
        lengths[w]++;
        return true;
    }

    public boolean remove(int w) {
        if (!isWord(w)) {
            return false;
        }
        lengths[w] = 0;
        return true;
    }

    public boolean weigh(int w, int weight) {
        if (!isWord(w) || !isWeight(weight)) {
            return false;
        }
        weights[w] = weight;
        return true;
    }

    public int words() {
        int bits = 0;
        for (int w = 0; w < MOST_WORDS; w++) {
            if (isWord(w)) {
                bits |= 1 << w;
            }
        }
        return bits;
    }

    public int type(int s) {
        if (!isSymbol(s)) {
            return NONE;
        }
        if (queryLength >= MOST_SYMBOLS) {
            return FULL;
        }
        query[queryLength] = s;
        queryLength++;
        return countFound(queryLength);
    }

    public int rub() {
        if (queryLength == 0) {
            return NONE;
        }
        queryLength--;
        return query[queryLength];
    }

    public int typed() {
        return queryLength;
    }

    public int typos(int w) {
        if (!isWord(w)) {
            return NONE;
        }
        int least = leastCost(w, queryLength);
        return least < MOST_TYPOS_TOLD ? least : MOST_TYPOS_TOLD;
    }

    public int found() {
        int bits = 0;
        for (int w = 0; w < MOST_WORDS; w++) {
            if (isFound(w, queryLength)) {
                bits |= 1 << w;
            }
        }
        return bits;
    }

    public int at(int k) {
        for (int w = 0; w < MOST_WORDS; w++) {
            if (isFound(w, queryLength) && countBefore(w) == k) {
                return w;
            }
        }
        return NONE;
    }

    public int place(int w) {
        return isFound(w, queryLength) ? countBefore(w) : NONE;
    }

    public int hints() {
        if (queryLength >= MOST_SYMBOLS) {
            return 0;
        }
        int bits = 0;
        for (int s = 0; s < SYMBOLS; s++) {
            // The place behind the query's end is free, so trying a symbol there changes no query.
            query[queryLength] = s;
            if (countFound(queryLength + 1) > 0) {
                bits |= 1 << s;
            }
        }
        return bits;
    }

    public int common() {
        int first = NONE;
        int shared = 0;
        for (int w = 0; w < MOST_WORDS; w++) {
            if (!isFound(w, queryLength)) {
                continue;
            }
            if (first == NONE) {
                first = w;
                shared = lengths[w];
            } else {
                shared = sharedBeginning(first, w, shared);
            }
        }
        return shared;
    }

    private static boolean isSymbol(int s) {
        return s >= 0 && s < SYMBOLS;
    }

    private static boolean isWeight(int weight) {
        return weight >= 0 && weight <= GREATEST_WEIGHT;
    }

    private boolean isWord(int w) {
        return w >= 0 && w < MOST_WORDS && lengths[w] > 0;
    }

    private static int forgiven(int length) {
        if (length < 3) {
            return 0;
        }
        return length < 5 ? 1 : 2;
    }

    // The query's length is an argument here and below so that hints can ask
    // about a query that is one symbol longer than the one typed.
    private boolean isFound(int w, int length) {
        if (!isWord(w)) {
            return false;
        }
        int least = leastCost(w, length);
        return least <= forgiven(length);
    }

    private int countFound(int length) {
        int count = 0;
        for (int w = 0; w < MOST_WORDS; w++) {
            if (isFound(w, length)) {
                count++;
            }
        }
        return count;
    }

    private int leastCost(int w, int length) {
        for (int j = 0; j <= lengths[w]; j++) {
            costs[j] = j * COST_AT_FIRST;
        }
        for (int i = 0; i < length; i++) {
            dealWith(i, w);
        }
        int least = costs[0];
        for (int j = 1; j <= lengths[w]; j++) {
            if (costs[j] < least) {
                least = costs[j];
            }
        }
        return least;
    }

    private void dealWith(int i, int w) {
        int change = i == 0 ? COST_AT_FIRST : COST;
        int shorter = costs[0];
        costs[0] = shorter + change;
        for (int j = 1; j <= lengths[w]; j++) {
            boolean same = query[i] == symbols[w * MOST_SYMBOLS + j - 1];
            int keptOrReplaced = same ? shorter : shorter + change;
            int leftOut = costs[j] + change;
            // What is put in here stands behind symbol i, so it never costs as at the first one.
            int putIn = costs[j - 1] + COST;
            shorter = costs[j];
            int least = keptOrReplaced < leftOut ? keptOrReplaced : leftOut;
            costs[j] = putIn < least ? putIn : least;
        }
    }

    private int countBefore(int w) {
        int count = 0;
        for (int other = 0; other < MOST_WORDS; other++) {
            if (other != w && isFound(other, queryLength) && goesBefore(other, w)) {
                count++;
            }
        }
        return count;
    }

    private boolean goesBefore(int a, int b) {
        int typosA = leastCost(a, queryLength);
        int typosB = leastCost(b, queryLength);
        if (typosA != typosB) {
            return typosA < typosB;
        }
        boolean queryIsA = isQuery(a);
        if (queryIsA != isQuery(b)) {
            return queryIsA;
        }
        if (lengths[a] != lengths[b]) {
            return lengths[a] < lengths[b];
        }
        if (weights[a] != weights[b]) {
            return weights[a] > weights[b];
        }
        return a < b;
    }

    private boolean isQuery(int w) {
        if (lengths[w] != queryLength) {
            return false;
        }
        for (int i = 0; i < queryLength; i++) {
            if (symbols[w * MOST_SYMBOLS + i] != query[i]) {
                return false;
            }
        }
        return true;
    }

    private int sharedBeginning(int a, int b, int most) {
        int shared = 0;
        while (shared < most && shared < lengths[b]
                && symbols[a * MOST_SYMBOLS + shared] == symbols[b * MOST_SYMBOLS + shared]) {
            shared++;
        }
        return shared;
    }
}
