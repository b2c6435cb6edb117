import java.util.function.Supplier;
import java.util.function.ToIntFunction;

/**
 * The document read sentence by sentence: each one that names a boundary case
 * has a test of its own here, which begins with the sentence it stands for.
 */
public final class TypoSearchBoundaries {
    private static final int NONE = -1;
    private static final int FULL = -2;
    private static final int NO = 0;
    private static final int YES = 1;
    private static final int LAST_CALL = 512;

    // Beside the nearest wrong ones: some that a cut to a byte, a char or a bit
    // count, or a wrapped product (a number of 715827883 times 6 is 2), makes right again.
    private static final int[] NOT_SYMBOLS = {
        -1, 4, 5, -4, 32, 256, 65536, 1 << 30, Integer.MAX_VALUE, Integer.MIN_VALUE};
    private static final int[] NOT_WEIGHTS = {
        -1, 10, 11, -9, 32, 256, 65536, 1 << 30, Integer.MAX_VALUE, Integer.MIN_VALUE};
    private static final int[] NOT_NUMBERS = {
        -1, 10, 11, -9, 32, 33, 60, 256, 65536, 715827883, 1 << 30, Integer.MAX_VALUE, Integer.MIN_VALUE};

    private static String sentence = "";
    private static int wrong = 0;

    private static void from(String read) {
        sentence = read;
    }

    private static void due(String call, String got, String want) {
        if (!got.equals(want)) {
            wrong++;
            System.out.println(sentence + ": " + call + " answered " + got + ", due is " + want);
        }
    }

    private static void due(String call, int got, int want) {
        due(call, Integer.toString(got), Integer.toString(want));
    }

    private static void due(String call, boolean got, boolean want) {
        due(call, Boolean.toString(got), Boolean.toString(want));
    }

    private static int bit(boolean answer) {
        return answer ? YES : NO;
    }

    // ---- objects to begin with; the digits of a text are symbols

    private static int add(TypoSearch x, String symbols, int weight) {
        int w = x.begin(symbols.charAt(0) - '0', weight);
        for (int i = 1; i < symbols.length(); i++) {
            due("extend for " + symbols, x.extend(w, symbols.charAt(i) - '0'), true);
        }
        return w;
    }

    private static TypoSearch with(String... words) {
        TypoSearch x = new TypoSearch();
        for (int w = 0; w < words.length; w++) {
            due("the number of " + words[w], add(x, words[w], 5), w);
        }
        return x;
    }

    private static TypoSearch typing(TypoSearch x, String symbols) {
        while (x.typed() > 0) {
            x.rub();
        }
        for (int i = 0; i < symbols.length(); i++) {
            x.type(symbols.charAt(i) - '0');
        }
        return x;
    }

    private static TypoSearch withTen() {
        return with("0", "1", "2", "3", "01", "01", "01", "230123", "230123", "0");
    }

    /** Words 0, 1, 2, 4, 5; number 3 was used once and is free again. */
    private static TypoSearch withAGap() {
        TypoSearch x = with("0123", "0123", "0123", "0123", "1", "012301");
        due("remove(3)", x.remove(3), true);
        return typing(x, "012");
    }

    private static TypoSearch withSixTyped() {
        return typing(with("0123", "012301", "1", "01230"), "012301");
    }

    private static TypoSearch withTenAndSixTyped() {
        return typing(withTen(), "230121");
    }

    // ---- what an object answers

    /** What every asking call answers. */
    private static String look(TypoSearch x) {
        StringBuilder seen = new StringBuilder("words " + x.words() + " typed " + x.typed()
            + " found " + x.found() + " hints " + x.hints() + " common " + x.common());
        seen.append(" typos/place/at");
        for (int n = 0; n < 10; n++) {
            seen.append(' ').append(x.typos(n)).append('/').append(x.place(n)).append('/').append(x.at(n));
        }
        return seen.toString();
    }

    /**
     * What the object answers when it is used up: its query symbol by symbol, then its words
     * under other queries, the room in each word, and the numbers that are free.
     */
    private static String useUp(TypoSearch x) {
        StringBuilder seen = new StringBuilder("rubbed");
        for (int i = 0; i < 7; i++) {
            seen.append(' ').append(x.rub());
        }
        for (int s = 0; s < 4; s++) {
            seen.append("; typed ").append(s).append(": ").append(x.type(s)).append(' ').append(look(x));
            x.rub();
        }
        for (int i = 0; i < 6; i++) {
            seen.append("; typed on: ").append(x.type(i % 4));
        }
        seen.append(' ').append(look(x)).append("; extended");
        for (int w = 0; w < 10; w++) {
            int room = 0;
            while (room < 6 && x.extend(w, 0)) {
                room++;
            }
            seen.append(' ').append(room);
        }
        seen.append("; begun");
        for (int i = 0; i < 11; i++) {
            seen.append(' ').append(x.begin(0, 0));
        }
        return seen.toString();
    }

    /** The call answers what is due, and neither the other calls nor the later ones show a trace of it. */
    private static void dueUnchanged(Supplier<TypoSearch> state, String call, ToIntFunction<TypoSearch> refused,
            int want) {
        TypoSearch x = state.get();
        String before = look(x);
        due(call, refused.applyAsInt(x), want);
        due("after " + call + ", the other calls", look(x), before);
        due("after " + call + ", later calls", useUp(x), useUp(state.get()));
    }

    private static void dueOrder(TypoSearch x, int... words) {
        for (int k = 0; k < words.length; k++) {
            due("at(" + k + ")", x.at(k), words[k]);
            due("place(" + words[k] + ")", x.place(words[k]), k);
        }
        due("at(" + words.length + ")", x.at(words.length), NONE);
    }

    private static void dueTypos(String query, String word, int want) {
        due("typos of " + word + " for query " + query, typing(with(word), query).typos(0), want);
    }

    private static void dueFound(String query, String word, int typos, int found) {
        TypoSearch x = typing(with(word), query);
        due("typos of " + word + " for query " + query, x.typos(0), typos);
        due("found() of " + word + " for query " + query, x.found(), found);
    }

    // ---- What it is

    private static void lastCalls() {
        from("What it is, 'at most 512 calls after it has been made'");
        TypoSearch x = new TypoSearch();
        int calls = 0;
        for (int w = 0; w < 10; w++, calls++) {
            due("begin as call " + (calls + 1), x.begin(3, 9), w);
        }
        for (; calls < LAST_CALL; calls += 2) {
            int w = calls % 10;
            due("remove(" + w + ") as call " + (calls + 1), x.remove(w), true);
            due("begin as call " + (calls + 2), x.begin(calls % 4, w), w);
        }
        TypoSearch y = new TypoSearch();
        for (int call = 1; call <= LAST_CALL; call += 2) {
            due("type as call " + call, y.type(call % 4), 0);
            due("rub as call " + (call + 1), y.rub(), call % 4);
        }
        TypoSearch z = new TypoSearch();
        due("begin as call 1", z.begin(2, 7), 0);
        for (int call = 2; call <= 6; call++) {
            due("extend as call " + call, z.extend(0, 1), true);
        }
        for (int call = 7; call <= LAST_CALL; call++) {
            due("extend as call " + call, z.extend(0, 1), false);
        }
    }

    // ---- Terms

    private static void symbolsFromZeroToThree() {
        from("Terms, 'Symbols are 0 .. 3'");
        for (int s = 0; s <= 3; s++) {
            TypoSearch x = new TypoSearch();
            due("begin(" + s + ", 5)", x.begin(s, 5), 0);
            due("extend(0, " + s + ")", x.extend(0, s), true);
            for (int other = 0; other <= 3; other++) {
                due("type(" + other + ") with word " + s + s, x.type(other), other == s ? 1 : 0);
                due("rub()", x.rub(), other);
            }
        }
    }

    private static void atMostTenWords() {
        from("Terms, 'at most ten WORDS, with numbers 0 .. 9'");
        TypoSearch x = new TypoSearch();
        for (int w = 0; w <= 9; w++) {
            due("begin(1, 5)", x.begin(1, 5), w);
            due("extend(" + w + ", 2)", x.extend(w, 2), true);
            due("typos(" + w + ")", x.typos(w), 0);
        }
        due("begin(1, 5), the eleventh", x.begin(1, 5), FULL);
        due("type(1)", x.type(1), 10);
        due("found()", x.found(), 1023);
        dueOrder(x, 0, 1, 2, 3, 4, 5, 6, 7, 8, 9);
        due("remove(0)", x.remove(0), true);
        due("remove(9)", x.remove(9), true);
        due("found()", x.found(), 1023 - 1 - 512);
    }

    private static void oneToSixSymbols() {
        from("Terms, 'each a list of 1 to 6 symbols'");
        String symbols = "012301";
        TypoSearch x = with("0");
        for (int length = 1; length <= 6; length++) {
            due("common() of a word of " + length, typing(x, "").common(), length);
            due("typos(0) of it", typing(x, symbols.substring(0, length)).typos(0), 0);
            due("extend(0, s) of it", x.extend(0, length % 4), length < 6);
        }
        due("typos(0) with six", x.typos(0), 0);
    }

    private static void weightsFromZeroToNine() {
        from("Terms, 'a weight (0 .. 9)'");
        TypoSearch x = new TypoSearch();
        for (int weight = 0; weight <= 9; weight++) {
            due("begin(0, " + weight + ")", x.begin(0, weight), weight);
        }
        dueOrder(x, 9, 8, 7, 6, 5, 4, 3, 2, 1, 0);
        for (int w = 0; w <= 9; w++) {
            due("weigh(" + w + ", " + (9 - w) + ")", x.weigh(w, 9 - w), true);
        }
        dueOrder(x, 0, 1, 2, 3, 4, 5, 6, 7, 8, 9);
    }

    private static void wordsAlike() {
        from("Terms, 'the words of two numbers may be alike'");
        TypoSearch x = typing(with("0123", "0123"), "0123");
        due("words()", x.words(), 3);
        due("found()", x.found(), 3);
        due("common()", x.common(), 4);
        dueOrder(x, 0, 1);
        due("remove(0)", x.remove(0), true);
        due("words() without the first", x.words(), 2);
        due("typos(1)", x.typos(1), 0);
        due("extend(1, 0)", x.extend(1, 0), true);
        due("common()", x.common(), 5);
    }

    private static void atMostSixTyped() {
        from("Terms, 'The QUERY is a list of at most six symbols'");
        TypoSearch x = with("321032");
        due("typed()", x.typed(), 0);
        for (int n = 1; n <= 6; n++) {
            due("type as number " + n, x.type((4 - n + 4) % 4), 1);
            due("typed()", x.typed(), n);
            due("typos(0)", x.typos(0), 0);
        }
        due("type(1), the seventh", x.type(1), FULL);
        due("typed()", x.typed(), 6);
        due("typos(0)", x.typos(0), 0);
    }

    private static void keptIsTheSame() {
        from("Terms, 'kept (it must be the same as the next symbol of the target)'");
        dueTypos("012", "012", 0);
        dueTypos("012", "0123", 0);
        // The same symbols, but not in the same order.
        dueTypos("021", "012", 1);
        dueTypos("0213", "0123", 2);
        dueTypos("10", "01", 2);
        dueTypos("1032", "0123", 3);
    }

    private static void costsOne() {
        from("Terms, 'replacing, leaving out and putting in cost 1 each'");
        dueTypos("031", "0010", 1);
        dueTypos("03300", "00000", 2);
        dueTypos("0312", "012", 1);
        dueTypos("03312", "012", 2);
        dueTypos("012", "0312", 1);
        dueTypos("0121", "033121", 2);
        dueTypos("013", "01223", 1);
        dueTypos("0123", "01", 2);
        // At the second symbol nothing costs 2 any more, at the last one nothing costs less.
        dueTypos("01", "00", 1);
        dueTypos("01", "0", 1);
        dueTypos("01", "0001", 1);
        dueTypos("012300", "012301", 1);
        dueTypos("012301", "01230", 1);
        dueTypos("01231", "012301", 1);
    }

    private static void firstReplacedCostsTwo() {
        from("Terms, 'replacing ... the FIRST symbol of the query ... cost 2'");
        dueTypos("1", "0", 2);
        dueTypos("3123", "0123", 2);
        dueTypos("312301", "012301", 2);
        // With one typo more, behind it.
        dueTypos("3133", "0123", 3);
    }

    private static void firstLeftOutCostsTwo() {
        from("Terms, 'leaving out the FIRST symbol of the query ... cost 2'");
        dueTypos("3012", "012", 2);
        dueTypos("301230", "01230", 2);
        // Leaving out the second of two alike is no leaving out of the first.
        dueTypos("0012", "012", 1);
        dueTypos("3301", "01", 3);
    }

    private static void putInBeforeTheFirstCostsTwo() {
        from("Terms, 'putting in a symbol before it is dealt with, cost 2 each'");
        dueTypos("012", "3012", 2);
        dueTypos("01230", "301230", 2);
        // Put in behind the first of two alike, not before it.
        dueTypos("012", "0012", 1);
        dueTypos("0123", "00123", 1);
        dueTypos("0123", "330123", 3);
    }

    private static void emptyQueryPutsNothingIn() {
        from("Terms, '(Putting symbols in for an empty query costs 2 each.)'");
        String[] words = {"0", "12", "230", "3012", "01230", "123012"};
        for (String word : words) {
            dueFound("", word, 0, 1);
        }
    }

    private static void anyBeginning() {
        from("Terms, 'a BEGINNING of the word (of 0 or more symbols, the whole word too)'");
        String word = "012301";
        for (int length = 0; length <= 6; length++) {
            dueTypos(word.substring(0, length), word, 0);
            dueTypos(word.substring(0, length), word.substring(0, length == 0 ? 1 : length), 0);
        }
        // The end of a word is no beginning.
        dueTypos("01", "2301", 3);
        // A query longer than the word leaves out what the word has not.
        dueTypos("01", "0", 1);
        dueTypos("012", "0", 2);
        dueTypos("0123", "0", 3);
    }

    private static void forgivesNone() {
        from("Terms, 'FORGIVES 0 typos when it has fewer than three symbols'");
        dueFound("", "0", 0, 1);
        dueFound("0", "0", 0, 1);
        dueFound("1", "01", 2, 0);
        dueFound("01", "01", 0, 1);
        dueFound("01", "00", 1, 0);
        dueFound("02", "012", 1, 0);
        dueFound("01", "0", 1, 0);
    }

    private static void forgivesOne() {
        from("Terms, 'FORGIVES ... 1 when it has three or four'");
        dueFound("001", "000", 1, 1);
        dueFound("011", "000", 2, 0);
        dueFound("100", "000", 2, 0);
        dueFound("0001", "0000", 1, 1);
        dueFound("0011", "0000", 2, 0);
        dueFound("1000", "0000", 2, 0);
    }

    private static void forgivesTwo() {
        from("Terms, 'FORGIVES ... else 2'");
        dueFound("00001", "00000", 1, 1);
        dueFound("00011", "00000", 2, 1);
        dueFound("00111", "00000", 3, 0);
        dueFound("10000", "00000", 2, 1);
        dueFound("10001", "00000", 3, 0);
        dueFound("000011", "000000", 2, 1);
        dueFound("000111", "000000", 3, 0);
        dueFound("100000", "000000", 2, 1);
        dueFound("100001", "000000", 3, 0);
    }

    private static void fewerTyposFirst() {
        from("Terms, 'goes BEFORE another one when it has fewer typos'");
        TypoSearch x = new TypoSearch();
        add(x, "012", 9);
        add(x, "01233", 9);
        add(x, "012301", 0);
        dueOrder(typing(x, "01230"), 2, 1, 0);
        dueOrder(typing(x, "0123"), 1, 2, 0);
        dueOrder(typing(x, "012"), 0, 1, 2);
    }

    private static void theQueryItselfFirst() {
        from("Terms, 'with equal typos, when it is the query itself ... and the other one is not'");
        TypoSearch x = new TypoSearch();
        add(x, "0120", 9);
        add(x, "012", 0);
        add(x, "01201", 9);
        dueOrder(typing(x, "012"), 1, 0, 2);
        // Both are the query itself: what follows decides.
        add(x, "012", 1);
        dueOrder(x, 3, 1, 0, 2);
    }

    private static void likeTheQueryIsNotTheQuery() {
        from("Terms, 'the query itself, symbol by symbol'");
        // With one typo each: shorter than the query, as long and longer. None is the query itself.
        TypoSearch x = with("0132", "013", "01");
        dueOrder(typing(x, "012"), 2, 1, 0);
        // As long as the query, and the same but for the first symbol; the other one is shorter.
        dueOrder(typing(with("10000", "000"), "00000"), 1, 0);
        // The same but for the last symbol.
        dueOrder(typing(with("00001", "0000"), "00000"), 1, 0);
    }

    private static void fewerSymbolsFirst() {
        from("Terms, 'then when it has fewer symbols'");
        TypoSearch x = new TypoSearch();
        String[] words = {"012301", "01230", "0123", "012", "01", "0"};
        for (int w = 0; w < 6; w++) {
            add(x, words[w], 9 - w);
        }
        dueOrder(x, 5, 4, 3, 2, 1, 0);
        dueOrder(typing(x, "0"), 5, 4, 3, 2, 1, 0);
    }

    private static void greaterWeightFirst() {
        from("Terms, 'then when its weight is greater'");
        TypoSearch x = new TypoSearch();
        int[] weights = {4, 0, 9, 5};
        for (int w = 0; w < 4; w++) {
            due("begin", add(x, "0" + w, weights[w]), w);
        }
        dueOrder(x, 2, 3, 0, 1);
        dueOrder(typing(x, "0"), 2, 3, 0, 1);
    }

    private static void lesserNumberFirst() {
        from("Terms, 'then when its number is less'");
        TypoSearch x = with("00", "01", "02", "03");
        dueOrder(typing(x, "0"), 0, 1, 2, 3);
        due("remove(1)", x.remove(1), true);
        dueOrder(x, 0, 2, 3);
        due("the number of a word added last", add(x, "00", 5), 1);
        dueOrder(x, 0, 1, 2, 3);
    }

    // ---- Promise 1

    private static void noWordsAtFirst() {
        from("Promise 1, 'No words'");
        TypoSearch x = new TypoSearch();
        due("the asking calls", look(x), "words 0 typed 0 found 0 hints 0 common 0 typos/place/at"
            + " -1/-1/-1".repeat(10));
        for (int w = 0; w < 10; w++) {
            int n = w;
            dueUnchanged(TypoSearch::new, "extend(" + w + ", 0)", y -> bit(y.extend(n, 0)), NO);
            dueUnchanged(TypoSearch::new, "remove(" + w + ")", y -> bit(y.remove(n)), NO);
            dueUnchanged(TypoSearch::new, "weigh(" + w + ", 0)", y -> bit(y.weigh(n, 0)), NO);
        }
    }

    private static void emptyQueryAtFirst() {
        from("Promise 1, 'an empty query'");
        TypoSearch x = new TypoSearch();
        due("typed()", x.typed(), 0);
        due("rub()", x.rub(), NONE);
        due("the number of 3210", add(x, "3210", 0), 0);
        due("typos(0)", x.typos(0), 0);
        due("found()", x.found(), 1);
    }

    private static void objectsApart() {
        from("Promise 1, of one object beside another");
        TypoSearch x = new TypoSearch();
        TypoSearch used = withTenAndSixTyped();
        due("words() of the used one", used.words(), 1023);
        due("the new one's answers", useUp(x), useUp(new TypoSearch()));
    }

    // ---- Promise 2

    private static void beginsWithOneSymbol() {
        from("Promise 2, 'a new word of one symbol s with this weight', where a longer word was");
        TypoSearch x = new TypoSearch();
        add(x, "012301", 9);
        add(x, "1", 5);
        due("remove(0)", x.remove(0), true);
        due("begin(2, 4)", x.begin(2, 4), 0);
        due("common() for 2", typing(x, "2").common(), 1);
        due("found() for 0", typing(x, "0").found(), 0);
        dueOrder(typing(x, ""), 1, 0);
        for (int i = 1; i < 6; i++) {
            due("extend(0, 3)", x.extend(0, 3), true);
        }
        due("extend(0, 3) with six", x.extend(0, 3), false);
        due("typos(0) for 233333", typing(x, "233333").typos(0), 0);
    }

    private static void leastFreeNumber() {
        from("Promise 2, 'the least number that no word has'");
        TypoSearch x = withTen();
        int[] removed = {9, 0, 5, 4};
        for (int w : removed) {
            due("remove(" + w + ")", x.remove(w), true);
        }
        int[] given = {0, 4, 5, 9};
        for (int w : given) {
            due("begin(3, 0)", x.begin(3, 0), w);
        }
        due("begin(3, 0) with ten", x.begin(3, 0), FULL);
    }

    private static void beginWithNoSymbol() {
        from("Promise 2, 'NONE when s is not 0 .. 3'");
        for (int s : NOT_SYMBOLS) {
            String call = "begin(" + s + ", 5)";
            dueUnchanged(TypoSearch::new, call, x -> x.begin(s, 5), NONE);
            dueUnchanged(TypoSearchBoundaries::withAGap, call, x -> x.begin(s, 5), NONE);
        }
    }

    private static void beginWithNoWeight() {
        from("Promise 2, 'NONE when ... weight is not 0 .. 9'");
        for (int weight : NOT_WEIGHTS) {
            String call = "begin(1, " + weight + ")";
            dueUnchanged(TypoSearch::new, call, x -> x.begin(1, weight), NONE);
            dueUnchanged(TypoSearchBoundaries::withAGap, call, x -> x.begin(1, weight), NONE);
            dueUnchanged(TypoSearchBoundaries::withAGap, "begin(4, " + weight + ")", x -> x.begin(4, weight), NONE);
        }
    }

    private static void beginWithTen() {
        from("Promise 2, 'FULL when there are ten'");
        for (int s = 0; s <= 3; s++) {
            int symbol = s;
            dueUnchanged(TypoSearchBoundaries::withTen, "begin(" + s + ", 0)", x -> x.begin(symbol, 0), FULL);
            dueUnchanged(TypoSearchBoundaries::withTen, "begin(" + s + ", 9)", x -> x.begin(symbol, 9), FULL);
        }
        TypoSearch x = withTen();
        due("begin(0, 0) with ten", x.begin(0, 0), FULL);
        due("remove(9)", x.remove(9), true);
        due("begin(0, 0) with nine", x.begin(0, 0), 9);
        due("begin(0, 0) with ten again", x.begin(0, 0), FULL);
        due("remove(0)", x.remove(0), true);
        due("begin(0, 0) with nine", x.begin(0, 0), 0);
    }

    // ---- Promise 3

    private static void extendWithoutWord() {
        from("Promise 3, 'false, changing nothing, when there is no word w'");
        for (int w : NOT_NUMBERS) {
            String call = "extend(" + w + ", 1)";
            dueUnchanged(TypoSearchBoundaries::withAGap, call, x -> bit(x.extend(w, 1)), NO);
            dueUnchanged(TypoSearchBoundaries::withTen, call, x -> bit(x.extend(w, 1)), NO);
            dueUnchanged(TypoSearchBoundaries::withTen, "extend(" + w + ", 4)", x -> bit(x.extend(w, 4)), NO);
        }
        dueUnchanged(TypoSearchBoundaries::withAGap, "extend(3, 1), removed", x -> bit(x.extend(3, 1)), NO);
        dueUnchanged(TypoSearchBoundaries::withAGap, "extend(6, 1), not begun", x -> bit(x.extend(6, 1)), NO);
        dueUnchanged(TypoSearchBoundaries::withAGap, "extend(9, 1), not begun", x -> bit(x.extend(9, 1)), NO);
    }

    private static void extendWithNoSymbol() {
        from("Promise 3, 'false, changing nothing, when ... s is not 0 .. 3'");
        for (int s : NOT_SYMBOLS) {
            dueUnchanged(TypoSearchBoundaries::withAGap, "extend(0, " + s + ")", x -> bit(x.extend(0, s)), NO);
            dueUnchanged(TypoSearchBoundaries::withAGap, "extend(4, " + s + ")", x -> bit(x.extend(4, s)), NO);
            dueUnchanged(TypoSearchBoundaries::withTen, "extend(9, " + s + ")", x -> bit(x.extend(9, s)), NO);
        }
    }

    private static void extendOfSix() {
        from("Promise 3, 'false, changing nothing, when ... it has six'");
        for (int s = -1; s <= 4; s++) {
            int symbol = s;
            dueUnchanged(TypoSearchBoundaries::withAGap, "extend(5, " + s + ")", x -> bit(x.extend(5, symbol)), NO);
            // Behind word 7's six symbols stands another word, behind word 9's nothing.
            dueUnchanged(TypoSearchBoundaries::withTen, "extend(7, " + s + ")", x -> bit(x.extend(7, symbol)), NO);
            Supplier<TypoSearch> lastHasSix = () -> {
                TypoSearch x = withTen();
                for (int i = 0; i < 5; i++) {
                    due("extend(9, " + i % 4 + ")", x.extend(9, i % 4), true);
                }
                return x;
            };
            dueUnchanged(lastHasSix, "extend(9, " + s + ")", x -> bit(x.extend(9, symbol)), NO);
        }
        TypoSearch x = with("01230");
        due("extend(0, 1) with five", x.extend(0, 1), true);
        due("extend(0, 2) with six", x.extend(0, 2), false);
        due("common()", x.common(), 6);
    }

    // ---- Promise 4

    private static void removeOfNone() {
        from("Promise 4, 'false, changing nothing, when there is none'");
        for (int w : NOT_NUMBERS) {
            dueUnchanged(TypoSearchBoundaries::withAGap, "remove(" + w + ")", x -> bit(x.remove(w)), NO);
            dueUnchanged(TypoSearchBoundaries::withTen, "remove(" + w + ")", x -> bit(x.remove(w)), NO);
        }
        dueUnchanged(TypoSearchBoundaries::withAGap, "remove(3), removed", x -> bit(x.remove(3)), NO);
        dueUnchanged(TypoSearchBoundaries::withAGap, "remove(6), not begun", x -> bit(x.remove(6)), NO);
        dueUnchanged(TypoSearchBoundaries::withAGap, "remove(9), not begun", x -> bit(x.remove(9)), NO);
    }

    private static void removeOfTheOnlyWord() {
        from("Promise 4, 'Takes word w away', the only one and each of ten");
        TypoSearch x = typing(with("012301"), "012301");
        due("remove(0)", x.remove(0), true);
        due("the asking calls", look(x), look(typing(new TypoSearch(), "012301")));
        due("remove(0) again", x.remove(0), false);
        TypoSearch y = withTen();
        for (int w = 0; w < 10; w++) {
            due("remove(" + w + ")", y.remove(w), true);
            due("words()", y.words(), 1023 - ((2 << w) - 1));
        }
        due("the answers of the emptied object", useUp(y), useUp(new TypoSearch()));
    }

    // ---- Promise 5

    private static void weighWithoutWord() {
        from("Promise 5, 'false, changing nothing, when there is none'");
        for (int w : NOT_NUMBERS) {
            dueUnchanged(TypoSearchBoundaries::withAGap, "weigh(" + w + ", 9)", x -> bit(x.weigh(w, 9)), NO);
            dueUnchanged(TypoSearchBoundaries::withTen, "weigh(" + w + ", 0)", x -> bit(x.weigh(w, 0)), NO);
            dueUnchanged(TypoSearchBoundaries::withTen, "weigh(" + w + ", 10)", x -> bit(x.weigh(w, 10)), NO);
        }
        dueUnchanged(TypoSearchBoundaries::withAGap, "weigh(3, 9), removed", x -> bit(x.weigh(3, 9)), NO);
        dueUnchanged(TypoSearchBoundaries::withAGap, "weigh(6, 9), not begun", x -> bit(x.weigh(6, 9)), NO);
        TypoSearch x = withAGap();
        due("weigh(3, 9)", x.weigh(3, 9), false);
        due("begin(1, 4)", x.begin(1, 4), 3);
        dueOrder(typing(x, "1"), 4, 3);
    }

    private static void weighWithNoWeight() {
        from("Promise 5, 'false, changing nothing, when ... weight is not 0 .. 9'");
        for (int weight : NOT_WEIGHTS) {
            // Words 1 and 5 each stand between two others that are alike, so any other weight would move them.
            dueUnchanged(TypoSearchBoundaries::withAGap, "weigh(1, " + weight + ")", x -> bit(x.weigh(1, weight)), NO);
            dueUnchanged(TypoSearchBoundaries::withTen, "weigh(5, " + weight + ")", x -> bit(x.weigh(5, weight)), NO);
        }
    }

    private static void weighToTheEdges() {
        from("Promise 5, 'Gives word w another weight', the least, the greatest and the same");
        TypoSearch x = with("0", "1", "2");
        due("weigh(1, 0)", x.weigh(1, 0), true);
        dueOrder(x, 0, 2, 1);
        due("weigh(1, 9)", x.weigh(1, 9), true);
        dueOrder(x, 1, 0, 2);
        due("weigh(1, 9) again", x.weigh(1, 9), true);
        dueOrder(x, 1, 0, 2);
        due("weigh(1, 5)", x.weigh(1, 5), true);
        dueOrder(x, 0, 1, 2);
    }

    // ---- Promise 6

    private static void wordsFromNoneToTen() {
        from("Promise 6, 'bit w for word w'");
        TypoSearch x = new TypoSearch();
        due("words() of none", x.words(), 0);
        for (int w = 0; w < 10; w++) {
            due("begin(0, 0)", x.begin(0, 0), w);
            due("words()", x.words(), (2 << w) - 1);
        }
        for (int w = 0; w < 10; w++) {
            due("remove(" + w + ")", x.remove(w), true);
            due("words() without " + w, x.words(), 1023 - (1 << w));
            due("begin(0, 0)", x.begin(0, 0), w);
        }
        due("type(3)", x.type(3), 0);
        due("words() when none is found", x.words(), 1023);
    }

    // ---- Promise 7

    private static void typeCountsWhatIsFoundThen() {
        from("Promise 7, 'the number of words found then', from none to ten");
        due("type(0) without words", new TypoSearch().type(0), 0);
        TypoSearch x = new TypoSearch();
        for (int w = 0; w < 10; w++) {
            due("type(2) with " + w + " words", x.type(2), w);
            due("rub()", x.rub(), 2);
            due("type(1) with " + w + " words", x.type(1), 0);
            due("rub()", x.rub(), 1);
            due("begin(2, 0)", x.begin(2, 0), w);
        }
        due("type(2) with ten", x.type(2), 10);
        // Counted with the longer query: it forgives what the shorter one didn't.
        TypoSearch y = typing(with("0123"), "03");
        due("found() for 03", y.found(), 0);
        due("type(2)", y.type(2), 1);
        due("type(1)", y.type(1), 0);
        due("type(3)", y.type(3), 1);
        TypoSearch z = typing(with("01230"), "0323");
        due("found() for 0323", z.found(), 1);
        due("rub()", z.rub(), 3);
        due("type(1)", z.type(1), 0);
        due("type(3)", z.type(3), 1);
    }

    private static void typeOfNoSymbol() {
        from("Promise 7, 'NONE when s is not 0 .. 3'");
        for (int s : NOT_SYMBOLS) {
            String call = "type(" + s + ")";
            dueUnchanged(TypoSearch::new, call, x -> x.type(s), NONE);
            dueUnchanged(TypoSearchBoundaries::withTen, call, x -> x.type(s), NONE);
            dueUnchanged(TypoSearchBoundaries::withAGap, call, x -> x.type(s), NONE);
        }
    }

    private static void typeWithSix() {
        from("Promise 7, 'FULL when the query has six'");
        for (int s = 0; s <= 3; s++) {
            int symbol = s;
            dueUnchanged(TypoSearchBoundaries::withSixTyped, "type(" + s + ")", x -> x.type(symbol), FULL);
            dueUnchanged(() -> typing(new TypoSearch(), "333333"), "type(" + s + ")", x -> x.type(symbol), FULL);
        }
        TypoSearch x = withSixTyped();
        due("type(0) with six", x.type(0), FULL);
        due("rub()", x.rub(), 1);
        due("type(0) with five", x.type(0), 3);
        due("type(0) with six again", x.type(0), FULL);
    }

    // ---- Promise 8

    private static void rubOfAnEmptyQuery() {
        from("Promise 8, 'NONE when it is empty'");
        dueUnchanged(TypoSearch::new, "rub()", TypoSearch::rub, NONE);
        dueUnchanged(TypoSearchBoundaries::withTen, "rub()", TypoSearch::rub, NONE);
        dueUnchanged(() -> typing(withSixTyped(), ""), "rub()", TypoSearch::rub, NONE);
        TypoSearch x = with("2");
        due("rub()", x.rub(), NONE);
        due("rub() again", x.rub(), NONE);
        due("type(2)", x.type(2), 1);
        due("typed()", x.typed(), 1);
    }

    private static void rubFromSixToNone() {
        from("Promise 8, 'Takes the last symbol of the query away and answers it', from six to none");
        String symbols = "310230";
        TypoSearch x = typing(new TypoSearch(), symbols);
        for (int n = 5; n >= 0; n--) {
            due("rub()", x.rub(), symbols.charAt(n) - '0');
            due("typed()", x.typed(), n);
        }
        due("rub()", x.rub(), NONE);
        // A 0 taken away is an answer too, and not the one for an empty query.
        due("type(0)", x.type(0), 0);
        due("rub()", x.rub(), 0);
    }

    // ---- Promise 9

    private static void typedFromNoneToSix() {
        from("Promise 9, 'The number of symbols of the query', from none to six and back");
        TypoSearch x = withTen();
        for (int n = 0; n < 6; n++) {
            due("typed()", x.typed(), n);
            x.type(0);
        }
        due("typed()", x.typed(), 6);
        x.type(0);
        x.type(4);
        due("typed() after two refused", x.typed(), 6);
        for (int n = 5; n >= 0; n--) {
            x.rub();
            due("typed()", x.typed(), n);
        }
        x.rub();
        due("typed() after a refused rub", x.typed(), 0);
    }

    // ---- Promise 10

    private static void typosUpToTwoAreTold() {
        from("Promise 10, '3 when they are more than 2'");
        dueTypos("01230", "01230", 0);
        dueTypos("01233", "01230", 1);
        dueTypos("01332", "01230", 2);
        dueTypos("03303", "01230", 3);
        dueTypos("0111", "0000", 3);
        dueTypos("01111", "00000", 3);
        dueTypos("1111", "0000", 3);
        dueTypos("111111", "000000", 3);
        dueTypos("111111", "0", 3);
    }

    private static void typosOfNoWord() {
        from("Promise 10, 'NONE when there is no word w'");
        for (int w : NOT_NUMBERS) {
            dueUnchanged(TypoSearchBoundaries::withAGap, "typos(" + w + ")", x -> x.typos(w), NONE);
            dueUnchanged(TypoSearchBoundaries::withTenAndSixTyped, "typos(" + w + ")", x -> x.typos(w), NONE);
        }
        due("typos(3), removed", withAGap().typos(3), NONE);
        due("typos(6), not begun", withAGap().typos(6), NONE);
        due("typos(9), not begun", withAGap().typos(9), NONE);
        due("typos(9) of ten", withTen().typos(9), 0);
    }

    // ---- Promise 11

    private static void foundFromNoneToTen() {
        from("Promise 11, 'The words found: bit w for word w', from none to all");
        due("found() without words", new TypoSearch().found(), 0);
        due("found() of six typed without words", typing(new TypoSearch(), "000000").found(), 0);
        due("found() of ten for an empty query", withTen().found(), 1023);
        due("found() for 3", typing(withTen(), "3").found(), 8);
        due("found() for 30", typing(withTen(), "30").found(), 0);
        due("found() for 230123", typing(withTen(), "230123").found(), 128 | 256);
        due("found() without the removed one", withAGap().found(), 1 | 2 | 4 | 32);
    }

    // ---- Promise 12

    private static void atTheFirstAndTheLast() {
        from("Promise 12, 'The found word with exactly k others before it', the first and the last");
        due("at(0) of a single word", with("3").at(0), 0);
        due("at(0) of ten", withTen().at(0), 0);
        due("at(9) of ten", withTen().at(9), 8);
        dueOrder(withAGap(), 0, 1, 2, 5);
    }

    private static void atOfNone() {
        from("Promise 12, 'NONE when there is none'");
        for (int k : NOT_NUMBERS) {
            dueUnchanged(TypoSearchBoundaries::withAGap, "at(" + k + ")", x -> x.at(k), NONE);
            dueUnchanged(TypoSearchBoundaries::withTen, "at(" + k + ")", x -> x.at(k), NONE);
            due("at(" + k + ") without words", new TypoSearch().at(k), NONE);
        }
        due("at(0) without words", new TypoSearch().at(0), NONE);
        due("at(1) of a single word", with("3").at(1), NONE);
        due("at(0) when none is found", typing(with("3"), "2").at(0), NONE);
        for (int k = 4; k < 10; k++) {
            due("at(" + k + ") of four found", withAGap().at(k), NONE);
        }
    }

    // ---- Promise 13

    private static void placeOfTheFirstAndTheLast() {
        from("Promise 13, 'How many found words go before word w', none and nine");
        due("place(0) of a single word", with("3").place(0), 0);
        due("place(0) of ten", withTen().place(0), 0);
        due("place(8) of ten", withTen().place(8), 9);
        // Words that are not found go before none.
        due("place(5) for 012301", typing(withAGap(), "012301").place(5), 0);
        due("place(1) for 23", typing(with("0", "230", "1"), "23").place(1), 0);
    }

    private static void placeOfOneNotFound() {
        from("Promise 13, 'NONE when w is not found'");
        for (int w : NOT_NUMBERS) {
            dueUnchanged(TypoSearchBoundaries::withAGap, "place(" + w + ")", x -> x.place(w), NONE);
            dueUnchanged(TypoSearchBoundaries::withTen, "place(" + w + ")", x -> x.place(w), NONE);
        }
        due("place(4), a word", withAGap().place(4), NONE);
        due("place(3), removed", withAGap().place(3), NONE);
        due("place(6), not begun", withAGap().place(6), NONE);
        due("place(9), not begun", withAGap().place(9), NONE);
        // One typo more than the query forgives.
        due("place(0) for 01", typing(with("00"), "01").place(0), NONE);
        due("place(0) for 0011", typing(with("0000"), "0011").place(0), NONE);
        due("place(0) for 000111", typing(with("000000"), "000111").place(0), NONE);
    }

    // ---- Promise 14

    private static void hintsForEachLength() {
        from("Promise 14, 'The symbols that could be typed next', with what the longer query forgives");
        due("hints() without words", new TypoSearch().hints(), 0);
        due("hints() for an empty query", with("0123").hints(), 1);
        due("hints() of ten for an empty query", withTen().hints(), 15);
        due("hints() for 0", typing(with("0123"), "0").hints(), 2);
        due("hints() for 01, of two", typing(with("0123"), "01").hints(), 15);
        due("hints() for 03, which finds nothing yet", typing(with("0123"), "03").hints(), 2 | 4);
        due("hints() for 013, of three", typing(with("0123"), "013").hints(), 4 | 8);
        due("hints() for 0133, of four", typing(with("0123"), "0133").hints(), 15);
        due("hints() for 01333, of five", typing(with("012301"), "01333").hints(), 1 | 2);
        due("hints() for 0, with nothing behind it", typing(with("0"), "0").hints(), 0);
        due("hints() for 00, with nothing found", typing(with("1"), "00").hints(), 0);
    }

    private static void hintsOfOneWordAreEnough() {
        from("Promise 14, 'at least one word would be found'");
        due("hints() with one word for each symbol", with("3", "1", "0").hints(), 8 | 2 | 1);
        due("hints() with two words for a symbol", with("2", "2").hints(), 4);
        TypoSearch x = with("2");
        due("remove(0)", x.remove(0), true);
        due("hints() without it", x.hints(), 0);
    }

    private static void hintsWithSix() {
        from("Promise 14, '0 when the query has six'");
        dueUnchanged(TypoSearchBoundaries::withSixTyped, "hints()", TypoSearch::hints, 0);
        dueUnchanged(TypoSearchBoundaries::withTenAndSixTyped, "hints()", TypoSearch::hints, 0);
        TypoSearch x = withSixTyped();
        due("found() with six", x.found(), 2 | 8 | 1);
        due("hints() with six", x.hints(), 0);
        due("rub()", x.rub(), 1);
        due("hints() with five", x.hints(), 15);
    }

    private static void hintsTypeNothing() {
        from("Promise 14, 'could be typed': asking types nothing");
        String query = "31023";
        for (int length = 0; length <= 5; length++) {
            String typed = query.substring(0, length);
            Supplier<TypoSearch> state = () -> typing(with("310231", "0"), typed);
            dueUnchanged(state, "hints() for " + typed, TypoSearch::hints, state.get().hints());
        }
    }

    // ---- Promise 15

    private static void commonOfAll() {
        from("Promise 15, 'the longest beginning that all found words have in common', from 0 to 6");
        due("common() of a word of one symbol", with("3").common(), 1);
        due("common() of a word of six", with("012301").common(), 6);
        due("common() of two alike", with("012301", "012301").common(), 6);
        due("common() of two that differ at the last", with("012301", "012300").common(), 5);
        due("common() of two that differ at the first", with("012301", "112301").common(), 0);
        due("common() of a word and its beginning", with("012301", "0").common(), 1);
        due("common() of a beginning and its word", with("0", "012301").common(), 1);
        due("common() of ten", withTen().common(), 0);
        // Of a longer word that was there before, nothing is left.
        TypoSearch x = with("0123", "0123");
        due("remove(1)", x.remove(1), true);
        due("the number of the word added then", add(x, "01", 5), 1);
        due("common() with a shorter word in its place", x.common(), 2);
        // Words that are not found have no say, and the query need not be what is in common.
        due("common() for 23", typing(withTen(), "23").common(), 6);
        due("common() for 0133", typing(with("0123", "3"), "0133").common(), 4);
        due("common() for 112301", typing(with("012301", "112301"), "112301").common(), 0);
    }

    private static void commonOfNone() {
        from("Promise 15, '0 when none is found'");
        due("common() without words", new TypoSearch().common(), 0);
        due("common() of six typed without words", typing(new TypoSearch(), "012301").common(), 0);
        due("common() of words not found", typing(with("012", "012"), "1").common(), 0);
        TypoSearch x = with("012");
        due("remove(0)", x.remove(0), true);
        due("common() of a word removed", x.common(), 0);
    }

    // ---- Promise 16

    private static void noneBeforeFullInBegin() {
        from("Promise 16, 'begin ...: NONE is tested before FULL'");
        for (int s : NOT_SYMBOLS) {
            dueUnchanged(TypoSearchBoundaries::withTen, "begin(" + s + ", 5)", x -> x.begin(s, 5), NONE);
        }
        for (int weight : NOT_WEIGHTS) {
            dueUnchanged(TypoSearchBoundaries::withTen, "begin(1, " + weight + ")", x -> x.begin(1, weight), NONE);
            dueUnchanged(TypoSearchBoundaries::withTen, "begin(4, " + weight + ")", x -> x.begin(4, weight), NONE);
        }
        due("begin(3, 9)", withTen().begin(3, 9), FULL);
        due("begin(0, 0)", withTen().begin(0, 0), FULL);
    }

    private static void noneBeforeFullInType() {
        from("Promise 16, '... and type: NONE is tested before FULL'");
        for (int s : NOT_SYMBOLS) {
            dueUnchanged(TypoSearchBoundaries::withSixTyped, "type(" + s + ")", x -> x.type(s), NONE);
        }
        due("type(0)", withSixTyped().type(0), FULL);
        due("type(3)", withSixTyped().type(3), FULL);
    }

    // One limit does not stand for the other.
    private static void theLimitsAreApart() {
        from("Promise 16, of a full query beside words and ten words beside a query");
        TypoSearch x = withSixTyped();
        due("begin(3, 0) with six typed", x.begin(3, 0), 4);
        due("extend(4, 0) with six typed", x.extend(4, 0), true);
        due("weigh(4, 9) with six typed", x.weigh(4, 9), true);
        due("remove(4) with six typed", x.remove(4), true);
        due("what stands after these", useUp(x), useUp(withSixTyped()));
        TypoSearch y = withTen();
        due("type(3) with ten words", y.type(3), 1);
        due("typed()", y.typed(), 1);
        due("rub() with ten words", y.rub(), 3);
        due("what stands after these", useUp(y), useUp(withTen()));
    }

    private static void terms() {
        lastCalls();
        symbolsFromZeroToThree();
        atMostTenWords();
        oneToSixSymbols();
        weightsFromZeroToNine();
        wordsAlike();
        atMostSixTyped();
        keptIsTheSame();
        costsOne();
        firstReplacedCostsTwo();
        firstLeftOutCostsTwo();
        putInBeforeTheFirstCostsTwo();
        emptyQueryPutsNothingIn();
        anyBeginning();
        forgivesNone();
        forgivesOne();
        forgivesTwo();
        fewerTyposFirst();
        theQueryItselfFirst();
        likeTheQueryIsNotTheQuery();
        fewerSymbolsFirst();
        greaterWeightFirst();
        lesserNumberFirst();
    }

    private static void changes() {
        noWordsAtFirst();
        emptyQueryAtFirst();
        objectsApart();
        beginsWithOneSymbol();
        leastFreeNumber();
        beginWithNoSymbol();
        beginWithNoWeight();
        beginWithTen();
        extendWithoutWord();
        extendWithNoSymbol();
        extendOfSix();
        removeOfNone();
        removeOfTheOnlyWord();
        weighWithoutWord();
        weighWithNoWeight();
        weighToTheEdges();
        wordsFromNoneToTen();
        typeCountsWhatIsFoundThen();
        typeOfNoSymbol();
        typeWithSix();
        rubOfAnEmptyQuery();
        rubFromSixToNone();
        typedFromNoneToSix();
    }

    private static void answers() {
        typosUpToTwoAreTold();
        typosOfNoWord();
        foundFromNoneToTen();
        atTheFirstAndTheLast();
        atOfNone();
        placeOfTheFirstAndTheLast();
        placeOfOneNotFound();
        hintsForEachLength();
        hintsOfOneWordAreEnough();
        hintsWithSix();
        hintsTypeNothing();
        commonOfAll();
        commonOfNone();
        noneBeforeFullInBegin();
        noneBeforeFullInType();
        theLimitsAreApart();
    }

    public static void main(String[] args) {
        terms();
        changes();
        answers();
        System.out.println(wrong == 0 ? "all answers are as due" : wrong + " wrong");
        System.exit(wrong == 0 ? 0 : 1);
    }
}
