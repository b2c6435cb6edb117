/** For each promise of the document: ordinary inputs, the edges it names, and wrong inputs. */
public final class TypoSearchPromises {
    private static final int NONE = -1;
    private static final int FULL = -2;
    private static final int[] NOT_SYMBOLS = {-1, 4, 5, Integer.MAX_VALUE, Integer.MIN_VALUE};
    private static final int[] NOT_WEIGHTS = {-1, 10, 11, Integer.MAX_VALUE, Integer.MIN_VALUE};
    private static final int[] NOT_NUMBERS = {-1, 10, 11, 60, Integer.MAX_VALUE, Integer.MIN_VALUE};

    private static int promise = 0;
    private static int wrong = 0;

    private static void due(String call, int got, int want) {
        if (got != want) {
            wrong++;
            System.out.println("promise " + promise + ": " + call + " answered " + got + ", due is " + want);
        }
    }

    private static void due(String call, boolean got, boolean want) {
        due(call, got ? 1 : 0, want ? 1 : 0);
    }

    /** Adds a word; its symbols are the digits of the text. */
    private static int add(TypoSearch x, String symbols, int weight) {
        int w = x.begin(symbols.charAt(0) - '0', weight);
        for (int i = 1; i < symbols.length(); i++) {
            due("extend for " + symbols, x.extend(w, symbols.charAt(i) - '0'), true);
        }
        return w;
    }

    /** An object with these words, numbered from 0 and all of weight 5. */
    private static TypoSearch with(String... words) {
        TypoSearch x = new TypoSearch();
        for (int w = 0; w < words.length; w++) {
            due("the number of " + words[w], add(x, words[w], 5), w);
        }
        return x;
    }

    private static TypoSearch typing(TypoSearch x, String symbols) {
        while (x.typed() > 0) {
            x.rub();
        }
        for (int i = 0; i < symbols.length(); i++) {
            x.type(symbols.charAt(i) - '0');
        }
        return x;
    }

    private static TypoSearch withTen() {
        return with("0", "1", "2", "3", "0", "1", "2", "3", "0", "1");
    }

    private static void dueTypos(String query, String word, int want) {
        due("typos of " + word + " for query " + query, typing(with(word), query).typos(0), want);
    }

    private static void dueOrder(TypoSearch x, int... words) {
        for (int k = 0; k < words.length; k++) {
            due("at(" + k + ")", x.at(k), words[k]);
            due("place(" + words[k] + ")", x.place(words[k]), k);
        }
        due("at(" + words.length + ")", x.at(words.length), NONE);
    }

    private static void newObject() {
        promise = 1;
        TypoSearch x = new TypoSearch();
        due("words()", x.words(), 0);
        due("typed()", x.typed(), 0);
        due("found()", x.found(), 0);
        due("rub()", x.rub(), NONE);
        due("at(0)", x.at(0), NONE);
        for (int w = 0; w < 10; w++) {
            due("typos(" + w + ")", x.typos(w), NONE);
            due("place(" + w + ")", x.place(w), NONE);
        }
        TypoSearch y = new TypoSearch();
        x.begin(0, 0);
        x.type(0);
        due("words() of another object", y.words(), 0);
        due("typed() of another object", y.typed(), 0);
    }

    private static void begin() {
        promise = 2;
        TypoSearch x = new TypoSearch();
        for (int s : NOT_SYMBOLS) {
            due("begin(" + s + ", 0)", x.begin(s, 0), NONE);
        }
        for (int weight : NOT_WEIGHTS) {
            due("begin(0, " + weight + ")", x.begin(0, weight), NONE);
        }
        due("words() after wrong ones", x.words(), 0);
        for (int w = 0; w < 10; w++) {
            due("begin(" + w % 4 + ", " + w + ")", x.begin(w % 4, w), w);
        }
        due("words()", x.words(), 1023);
        due("begin(0, 0) with ten", x.begin(0, 0), FULL);
        dueOrder(x, 9, 8, 7, 6, 5, 4, 3, 2, 1, 0);
        due("type(1)", x.type(1), 3);
        due("found()", x.found(), 1 << 1 | 1 << 5 | 1 << 9);

        TypoSearch y = with("012", "1", "2", "3");
        y.remove(2);
        y.remove(0);
        due("begin(3, 1) with 0 and 2 free", y.begin(3, 1), 0);
        due("common() of the one word found", typing(y, "3").common(), 1);
        due("begin(3, 1) with 2 free", y.begin(3, 1), 2);
        due("begin(3, 1) with none free below 4", y.begin(3, 1), 4);
        due("typed()", y.typed(), 1);
    }

    private static void extend() {
        promise = 3;
        TypoSearch x = with("0", "1");
        for (int s : NOT_SYMBOLS) {
            due("extend(0, " + s + ")", x.extend(0, s), false);
        }
        for (int w : NOT_NUMBERS) {
            due("extend(" + w + ", 0)", x.extend(w, 0), false);
        }
        due("extend(2, 0) without word 2", x.extend(2, 0), false);
        due("words()", x.words(), 3);
        due("common() of 0", typing(x, "0").common(), 1);
        for (int i = 1; i < 6; i++) {
            due("extend(0, " + i % 4 + ")", x.extend(0, i % 4), true);
            due("common() while 0 grows", x.common(), i + 1);
        }
        due("extend(0, 2) with six", x.extend(0, 2), false);
        due("common() with six", x.common(), 6);
        due("typos(0)", typing(x, "012301").typos(0), 0);
        due("common() of 1, which stayed as it was", typing(x, "1").common(), 1);

        TypoSearch y = with("000000", "1");
        due("extend(0, 3) with six", y.extend(0, 3), false);
        due("found() for 1", typing(y, "1").found(), 2);
        due("remove(0)", y.remove(0), true);
        due("extend(0, 0) after remove", y.extend(0, 0), false);
        due("words() after that", y.words(), 2);

        TypoSearch last = withTen();
        due("extend(9, 3)", last.extend(9, 3), true);
        due("found()", typing(last, "13").found(), 1 << 9);
    }

    private static void remove() {
        promise = 4;
        TypoSearch x = with("0", "01", "012");
        for (int w : NOT_NUMBERS) {
            due("remove(" + w + ")", x.remove(w), false);
        }
        due("remove(3)", x.remove(3), false);
        due("words()", x.words(), 7);
        due("remove(1)", x.remove(1), true);
        due("words()", x.words(), 5);
        due("found()", x.found(), 5);
        due("remove(1) again", x.remove(1), false);
        due("words()", x.words(), 5);
        dueOrder(x, 0, 2);
        due("the number of a word added then", add(x, "32", 5), 1);
        due("typos(1)", typing(x, "321").typos(1), 1);

        TypoSearch ten = withTen();
        due("remove(9)", ten.remove(9), true);
        due("words()", ten.words(), 511);
        due("begin(0, 0)", ten.begin(0, 0), 9);
        due("begin(0, 0)", ten.begin(0, 0), FULL);
    }

    private static void weigh() {
        promise = 5;
        TypoSearch x = with("0", "0", "0");
        dueOrder(x, 0, 1, 2);
        due("weigh(2, 9)", x.weigh(2, 9), true);
        dueOrder(x, 2, 0, 1);
        due("weigh(0, 0)", x.weigh(0, 0), true);
        dueOrder(x, 2, 1, 0);
        for (int weight : NOT_WEIGHTS) {
            due("weigh(0, " + weight + ")", x.weigh(0, weight), false);
            due("weigh(2, " + weight + ")", x.weigh(2, weight), false);
        }
        for (int w : NOT_NUMBERS) {
            due("weigh(" + w + ", 5)", x.weigh(w, 5), false);
        }
        due("weigh(3, 5)", x.weigh(3, 5), false);
        due("words()", x.words(), 7);
        dueOrder(x, 2, 1, 0);
        x.remove(2);
        due("weigh(2, 9) after remove", x.weigh(2, 9), false);
        due("begin(0, 1)", x.begin(0, 1), 2);
        dueOrder(x, 1, 2, 0);
    }

    private static void words() {
        promise = 6;
        TypoSearch x = new TypoSearch();
        for (int w = 0; w < 10; w++) {
            x.begin(w % 4, 0);
            due("words() with " + (w + 1), x.words(), (2 << w) - 1);
        }
        x.type(3);
        due("words() while few are found", x.words(), 1023);
        x.remove(0);
        x.remove(7);
        due("words() without 0 and 7", x.words(), 1023 - 1 - 128);
    }

    private static void type() {
        promise = 7;
        TypoSearch x = with("0123", "0120", "01", "3");
        for (int s : NOT_SYMBOLS) {
            due("type(" + s + ")", x.type(s), NONE);
        }
        due("typed() after wrong ones", x.typed(), 0);
        due("type(0)", x.type(0), 3);
        due("type(1)", x.type(1), 3);
        due("type(2)", x.type(2), 3);
        due("type(3)", x.type(3), 2);
        due("type(3)", x.type(3), 2);
        due("type(3)", x.type(3), 1);
        due("type(3) with six", x.type(3), FULL);
        due("typed()", x.typed(), 6);
        due("typos(0)", x.typos(0), 2);
        due("type(2) without words", new TypoSearch().type(2), 0);

        // What a query of each length still forgives, and what it doesn't.
        TypoSearch y = with("000000");
        due("found for 01", typing(y, "01").found(), 0);
        due("found for 001", typing(y, "001").found(), 1);
        due("found for 011", typing(y, "011").found(), 0);
        due("found for 0001", typing(y, "0001").found(), 1);
        due("found for 0011", typing(y, "0011").found(), 0);
        due("found for 00011", typing(y, "00011").found(), 1);
        due("found for 00111", typing(y, "00111").found(), 0);
        due("found for 000011", typing(y, "000011").found(), 1);
        due("found for 000111", typing(y, "000111").found(), 0);
        due("found for 1", typing(y, "1").found(), 0);
        due("found for 1000", typing(y, "1000").found(), 0);
        due("found for 10000", typing(y, "10000").found(), 1);
    }

    private static void rub() {
        promise = 8;
        TypoSearch x = with("0132");
        due("rub() of an empty query", x.rub(), NONE);
        due("typed()", x.typed(), 0);
        typing(x, "013213");
        int[] back = {3, 1, 2, 3, 1, 0};
        for (int i = 0; i < back.length; i++) {
            due("rub()", x.rub(), back[i]);
            due("typed()", x.typed(), 5 - i);
        }
        due("rub() at the end", x.rub(), NONE);
        due("typed() at the end", x.typed(), 0);
        due("words()", x.words(), 1);
        due("found()", x.found(), 1);
        typing(x, "2");
        due("found() for 2", x.found(), 0);
        x.rub();
        due("found() after rub()", x.found(), 1);
        typing(x, "012");
        x.hints();
        due("rub() after hints()", x.rub(), 2);
        x.type(4);
        due("rub() after a wrong type", x.rub(), 1);
    }

    private static void typed() {
        promise = 9;
        TypoSearch x = new TypoSearch();
        for (int n = 1; n <= 6; n++) {
            x.type(n % 4);
            due("typed()", x.typed(), n);
        }
        x.type(0);
        due("typed() after a seventh", x.typed(), 6);
        x.rub();
        x.hints();
        due("typed() after hints()", x.typed(), 5);
        x.begin(0, 0);
        due("typed() after begin", x.typed(), 5);
    }

    private static void typos() {
        promise = 10;
        TypoSearch x = with("0", "1");
        for (int w : NOT_NUMBERS) {
            due("typos(" + w + ")", x.typos(w), NONE);
        }
        due("typos(2)", x.typos(2), NONE);
        x.remove(0);
        due("typos(0) after remove", x.typos(0), NONE);

        dueTypos("", "0", 0);
        dueTypos("", "012301", 0);
        dueTypos("012301", "012301", 0);
        dueTypos("01", "012301", 0);
        // The first symbol: replaced, left out, and others put in before it.
        dueTypos("1", "0", 2);
        dueTypos("1", "000000", 2);
        dueTypos("1", "01", 2);
        dueTypos("112", "012", 2);
        dueTypos("3012", "012", 2);
        dueTypos("012", "3012", 2);
        dueTypos("0123", "330123", 3);
        // The same behind the first symbol.
        dueTypos("010", "000", 1);
        dueTypos("0312", "012", 1);
        dueTypos("02", "012", 1);
        dueTypos("0123", "01", 2);
        dueTypos("0012", "012", 1);
        dueTypos("012", "0012", 1);
        dueTypos("03", "01213", 1);
        dueTypos("0303", "01213", 3);
        dueTypos("0231", "0123", 2);
        // A changed first symbol together with others.
        dueTypos("10", "00", 2);
        dueTypos("11", "00", 3);
        dueTypos("100", "0", 3);
        // More than 2 is told as 3, however many.
        dueTypos("01", "23", 3);
        dueTypos("0111", "0000", 3);
        dueTypos("000000", "111111", 3);
        dueTypos("333333", "0", 3);
        dueTypos("000000", "0", 3);
        dueTypos("000", "0", 2);
        dueTypos("0000", "0", 3);
    }

    private static void found() {
        promise = 11;
        TypoSearch x = with("0123", "01", "1123", "0223", "30123", "0");
        due("found() of an empty query", x.found(), 63);
        due("found() for 0", typing(x, "0").found(), 1 | 2 | 8 | 32);
        due("found() for 01", typing(x, "01").found(), 1 | 2);
        due("found() for 012", typing(x, "012").found(), 1 | 2 | 8);
        due("found() for 0123", typing(x, "0123").found(), 1 | 8);
        due("found() for 01230", typing(x, "01230").found(), 1 | 8);
        due("found() for 11230", typing(x, "11230").found(), 4);
        due("found() for 01231", typing(x, "01231").found(), 1 | 8);
        due("found() for 33", typing(x, "33").found(), 0);
        typing(x, "0123");
        x.extend(1, 3);
        due("found() after word 1 became 013", x.found(), 1 | 2 | 8);
        x.remove(0);
        due("found() without word 0", x.found(), 2 | 8);
        due("found() with ten", withTen().found(), 1023);
    }

    private static void order() {
        // Fewer typos go first, whatever length and weight say.
        TypoSearch x = new TypoSearch();
        add(x, "013", 9);
        add(x, "012333", 0);
        add(x, "01", 9);
        dueOrder(typing(x, "012"), 1, 2, 0);
        // With equal typos the query itself, then fewer symbols, then the greater weight, then the number.
        TypoSearch y = new TypoSearch();
        add(y, "0123", 9);
        add(y, "012", 0);
        add(y, "01230", 9);
        add(y, "0121", 9);
        add(y, "0120", 8);
        add(y, "012", 1);
        add(y, "0122", 9);
        dueOrder(typing(y, "012"), 5, 1, 0, 3, 6, 4, 2);
        dueOrder(typing(y, ""), 5, 1, 0, 3, 6, 4, 2);
        dueOrder(typing(y, "01230"), 2, 0, 4, 5, 1, 3, 6);
        dueOrder(typing(y, "33"));
        // Fewer symbols go before a greater weight also where each word has a typo.
        TypoSearch z = new TypoSearch();
        add(z, "03200", 9);
        add(z, "0320", 0);
        add(z, "0320", 3);
        add(z, "032", 0);
        dueOrder(typing(z, "012"), 3, 2, 1, 0);
        // A word of the query's length that differs in one symbol is not the query itself.
        dueOrder(typing(with("10000", "000"), "00000"), 1, 0);
        dueOrder(typing(with("012301", "012301"), "012301"), 0, 1);
    }

    private static void at() {
        promise = 12;
        order();
        TypoSearch x = with("0", "01", "1");
        typing(x, "0");
        int[] none = {-1, 2, 3, 10, Integer.MAX_VALUE, Integer.MIN_VALUE};
        for (int k : none) {
            due("at(" + k + ")", x.at(k), NONE);
        }
        due("at(0) of no words", new TypoSearch().at(0), NONE);
        dueOrder(withTen(), 0, 1, 2, 3, 4, 5, 6, 7, 8, 9);
    }

    private static void place() {
        promise = 13;
        order();
        TypoSearch x = with("01", "0", "1");
        typing(x, "0");
        due("place(2), not found", x.place(2), NONE);
        due("place(3), no word", x.place(3), NONE);
        for (int w : NOT_NUMBERS) {
            due("place(" + w + ")", x.place(w), NONE);
        }
        x.remove(1);
        due("place(1), removed", x.place(1), NONE);
        due("place(0)", x.place(0), 0);
    }

    private static void hints() {
        promise = 14;
        due("hints() without words", new TypoSearch().hints(), 0);
        TypoSearch x = with("0123", "020", "3");
        due("hints()", x.hints(), 1 | 8);
        due("hints() for 0", typing(x, "0").hints(), 2 | 4);
        due("hints() for 3", typing(x, "3").hints(), 0);
        due("hints() for 01, with one typo forgiven next", typing(x, "01").hints(), 15);
        due("hints() for 02", typing(x, "02").hints(), 15);
        due("hints() for 31, where 3 is too short", typing(x, "31").hints(), 0);
        due("hints() for 0021", typing(x, "0021").hints(), 1 | 4 | 8);
        due("found() after hints()", x.found(), 0);
        due("typed() after hints()", x.typed(), 4);
        TypoSearch y = with("012301");
        due("hints() for 01230", typing(y, "01230").hints(), 15);
        due("hints() for 01200", typing(y, "01200").hints(), 15);
        due("hints() for 01333", typing(y, "01333").hints(), 1 | 2);
        due("hints() for 02222", typing(y, "02222").hints(), 0);
        due("found() for 012301", typing(y, "012301").found(), 1);
        due("hints() with six", y.hints(), 0);
        due("rub() after hints() with six", y.rub(), 1);
        due("hints() after rub()", y.hints(), 15);
    }

    private static void common() {
        promise = 15;
        due("common() without words", new TypoSearch().common(), 0);
        TypoSearch x = with("0123", "0120", "01", "3");
        due("common() with nothing in common", x.common(), 0);
        due("common() for 0", typing(x, "0").common(), 2);
        due("common() for 01", typing(x, "01").common(), 2);
        due("common() for 0123", typing(x, "0123").common(), 3);
        due("common() for 3", typing(x, "3").common(), 1);
        due("common() when none is found", typing(x, "2").common(), 0);
        x.remove(2);
        due("common() for 0 without word 2", typing(x, "0").common(), 3);
        x.remove(1);
        due("common() of a single word", x.common(), 4);
        TypoSearch y = with("012301", "012301", "012301");
        due("common() of words alike", y.common(), 6);
        TypoSearch z = with("0123", "0223", "0120");
        due("common() where a later word shares more", z.common(), 1);
        // The same symbol behind a difference doesn't count.
        due("common() for 0223", typing(with("0123", "0223"), "0223").common(), 1);
        due("common() where a word is the other's beginning", with("01", "0123").common(), 2);
        due("common() the other way round", with("0123", "01").common(), 2);
        due("common() of 0100 and 01", with("0100", "01").common(), 2);
        TypoSearch again = with("0123", "0123");
        again.remove(1);
        due("the number of the word added then", add(again, "01", 5), 1);
        due("common() with 01 in the place of 0123", again.common(), 2);
    }

    private static void orderAndLimits() {
        promise = 16;
        TypoSearch x = withTen();
        for (int s : NOT_SYMBOLS) {
            due("begin(" + s + ", 0) with ten", x.begin(s, 0), NONE);
        }
        for (int weight : NOT_WEIGHTS) {
            due("begin(0, " + weight + ") with ten", x.begin(0, weight), NONE);
        }
        due("begin(3, 9) with ten", x.begin(3, 9), FULL);
        due("words()", x.words(), 1023);
        typing(x, "012301");
        for (int s : NOT_SYMBOLS) {
            due("type(" + s + ") with six", x.type(s), NONE);
        }
        due("type(3) with six", x.type(3), FULL);
        due("typed()", x.typed(), 6);
        due("rub()", x.rub(), 1);
    }

    public static void main(String[] args) {
        newObject();
        begin();
        extend();
        remove();
        weigh();
        words();
        type();
        rub();
        typed();
        typos();
        found();
        at();
        place();
        hints();
        common();
        orderAndLimits();
        System.out.println(wrong == 0 ? "all answers are as due" : wrong + " wrong");
        System.exit(wrong == 0 ? 0 : 1);
    }
}
