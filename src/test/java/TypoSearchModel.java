import java.util.ArrayList;
import java.util.Arrays;
import java.util.Comparator;
import java.util.List;

/**
 * Long runs of calls, the same ones each time, and each query beside each
 * word, compared with a model that is written straight from the document's
 * terms: it tries the edits one by one and sorts the found words, where the
 * class counts with costs and places.
 */
public final class TypoSearchModel {
    private static final int RUNS = 600;
    private static final int CALLS = 512;
    private static final int[] ODD_NUMBERS = {
        -1, -2, 4, 6, 10, 11, 31, 32, 60, Integer.MAX_VALUE, Integer.MIN_VALUE};

    /** What a query of each length forgives. */
    private static final int[] FORGIVEN = {0, 0, 0, 1, 1, 2, 2};

    private static int wrong = 0;

    /** A fixed row of mixed numbers, so that every run of this test makes the same calls. */
    private static final class Numbers {
        private long state = 20261116L;

        int below(int bound) {
            state = state * 6364136223846793005L + 1442695040888963407L;
            return (int) ((state >>> 33) % bound);
        }
    }

    private static final class Word {
        final int number;
        final List<Integer> symbols = new ArrayList<>();
        int weight;

        Word(int number) {
            this.number = number;
        }
    }

    private static final class Model {
        final Word[] words = new Word[10];
        final List<Integer> query = new ArrayList<>();

        boolean has(int w) {
            return w >= 0 && w <= 9 && words[w] != null;
        }

        static boolean in(int n, int least, int most) {
            return n >= least && n <= most;
        }

        int begin(int s, int weight) {
            if (!in(s, 0, 3) || !in(weight, 0, 9)) {
                return -1;
            }
            int w = Arrays.asList(words).indexOf(null);
            if (w < 0) {
                return -2;
            }
            words[w] = new Word(w);
            words[w].symbols.add(s);
            words[w].weight = weight;
            return w;
        }

        int extend(int w, int s) {
            if (!has(w) || !in(s, 0, 3) || words[w].symbols.size() == 6) {
                return 0;
            }
            words[w].symbols.add(s);
            return 1;
        }

        int remove(int w) {
            if (!has(w)) {
                return 0;
            }
            words[w] = null;
            return 1;
        }

        int weigh(int w, int weight) {
            if (!has(w) || !in(weight, 0, 9)) {
                return 0;
            }
            words[w].weight = weight;
            return 1;
        }

        int words() {
            int bits = 0;
            for (int w = 0; w < 10; w++) {
                bits += words[w] == null ? 0 : 1 << w;
            }
            return bits;
        }

        int type(int s) {
            if (!in(s, 0, 3)) {
                return -1;
            }
            if (query.size() == 6) {
                return -2;
            }
            query.add(s);
            return ranked(query).size();
        }

        int rub() {
            return query.isEmpty() ? -1 : query.remove(query.size() - 1);
        }

        int typos(int w) {
            return has(w) ? tryEdits(query, 0, words[w].symbols, 0, 0) : -1;
        }

        /** Answers 3 for anything above 2, which the document never tells apart. */
        static int tryEdits(List<Integer> query, int i, List<Integer> word, int j, int spent) {
            if (spent > 2) {
                return 3;
            }
            if (i == query.size()) {
                return spent;
            }
            int price = i == 0 ? 2 : 1;
            int least = tryEdits(query, i + 1, word, j, spent + price);
            if (j < word.size()) {
                int step = query.get(i).equals(word.get(j)) ? 0 : price;
                least = Math.min(least, tryEdits(query, i + 1, word, j + 1, spent + step));
                least = Math.min(least, tryEdits(query, i, word, j + 1, spent + price));
            }
            return least;
        }

        List<Word> ranked(List<Integer> typed) {
            List<Word> found = new ArrayList<>();
            for (Word word : words) {
                if (word != null && tryEdits(typed, 0, word.symbols, 0, 0) <= FORGIVEN[typed.size()]) {
                    found.add(word);
                }
            }
            found.sort(Comparator
                .comparingInt((Word word) -> tryEdits(typed, 0, word.symbols, 0, 0))
                .thenComparing(word -> !word.symbols.equals(typed))
                .thenComparing(word -> word.symbols.size())
                .thenComparing(word -> -word.weight)
                .thenComparing(word -> word.number));
            return found;
        }

        int found() {
            return ranked(query).stream().mapToInt(word -> 1 << word.number).sum();
        }

        int at(int k) {
            List<Word> found = ranked(query);
            return in(k, 0, found.size() - 1) ? found.get(k).number : -1;
        }

        int place(int w) {
            return has(w) ? ranked(query).indexOf(words[w]) : -1;
        }

        int hints() {
            int bits = 0;
            for (int s = 0; s < 4 && query.size() < 6; s++) {
                List<Integer> longer = new ArrayList<>(query);
                longer.add(s);
                bits += ranked(longer).isEmpty() ? 0 : 1 << s;
            }
            return bits;
        }

        int common() {
            List<Word> found = ranked(query);
            for (int length = 6; length > 0 && !found.isEmpty(); length--) {
                int most = length;
                List<Integer> first = found.get(0).symbols;
                if (found.stream().allMatch(word -> word.symbols.size() >= most && first.size() >= most
                        && word.symbols.subList(0, most).equals(first.subList(0, most)))) {
                    return length;
                }
            }
            return 0;
        }
    }

    private static void due(String where, String call, int got, int want) {
        if (got != want) {
            wrong++;
            System.out.println(where + ": " + call + " answered " + got + ", due is " + want);
        }
    }

    private static void due(int run, String call, int got, int want) {
        due("run " + run, call, got, want);
    }

    private static int bit(boolean answer) {
        return answer ? 1 : 0;
    }

    /** Mostly 0 .. most, now and then a number that is out of reach. */
    private static int pick(Numbers numbers, int most) {
        return numbers.below(16) == 0
            ? ODD_NUMBERS[numbers.below(ODD_NUMBERS.length)] : numbers.below(most + 1);
    }

    /** Mostly what the run's pattern has at this place, so that words and query are near each other. */
    private static int pickSymbol(Numbers numbers, int[] pattern, int place) {
        return numbers.below(4) == 0 ? pick(numbers, 3) : pattern[place % pattern.length];
    }

    private static void change(int run, TypoSearch x, Model model, Numbers numbers, int[] pattern) {
        int w = pick(numbers, 9);
        int weight = pick(numbers, 9);
        int kind = numbers.below(32);
        if (kind < 6) {
            int s = pickSymbol(numbers, pattern, 0);
            due(run, "begin(" + s + ", " + weight + ")", x.begin(s, weight), model.begin(s, weight));
        } else if (kind < 18) {
            int s = pickSymbol(numbers, pattern, model.has(w) ? model.words[w].symbols.size() : 0);
            due(run, "extend(" + w + ", " + s + ")", bit(x.extend(w, s)), model.extend(w, s));
        } else if (kind < 20) {
            due(run, "remove(" + w + ")", bit(x.remove(w)), model.remove(w));
        } else if (kind < 22) {
            due(run, "weigh(" + w + ", " + weight + ")", bit(x.weigh(w, weight)), model.weigh(w, weight));
        } else if (kind < 29) {
            int s = pickSymbol(numbers, pattern, model.query.size());
            due(run, "type(" + s + ")", x.type(s), model.type(s));
        } else {
            due(run, "rub()", x.rub(), model.rub());
        }
    }

    private static void ask(int run, TypoSearch x, Model model, Numbers numbers) {
        int n = pick(numbers, 9);
        switch (numbers.below(8)) {
            case 0 -> due(run, "words()", x.words(), model.words());
            case 1 -> due(run, "typed()", x.typed(), model.query.size());
            case 2 -> due(run, "typos(" + n + ")", x.typos(n), model.typos(n));
            case 3 -> due(run, "found()", x.found(), model.found());
            case 4 -> due(run, "at(" + n + ")", x.at(n), model.at(n));
            case 5 -> due(run, "place(" + n + ")", x.place(n), model.place(n));
            case 6 -> due(run, "hints()", x.hints(), model.hints());
            default -> due(run, "common()", x.common(), model.common());
        }
    }

    /** All lists of at most six symbols, the shorter ones first. */
    private static List<List<Integer>> allLists() {
        List<List<Integer>> lists = new ArrayList<>();
        lists.add(List.of());
        for (int next = 0; lists.get(next).size() < 6; next++) {
            for (int s = 0; s < 4; s++) {
                List<Integer> longer = new ArrayList<>(lists.get(next));
                longer.add(s);
                lists.add(longer);
            }
        }
        return lists;
    }

    /** Whether 0 comes before the first 1, that before the first 2, and that before the first 3. */
    private static boolean isInOrderOfUse(List<Integer> symbols) {
        int used = 0;
        for (int s : symbols) {
            if (s > used) {
                return false;
            }
            used = Math.max(used, s + 1);
        }
        return true;
    }

    /**
     * Each word with each query. The terms only ask whether symbols are the
     * same, so a query with its symbols renamed would show nothing new beside
     * all the words, and of such queries one is enough.
     */
    private static void everyPair() {
        List<List<Integer>> words = allLists();
        List<List<Integer>> queries = allLists();
        queries.removeIf(query -> !isInOrderOfUse(query));
        for (List<Integer> word : words.subList(1, words.size())) {
            for (List<Integer> query : queries) {
                if (wrong < 20) {
                    pair(word, query);
                }
            }
        }
    }

    private static void pair(List<Integer> word, List<Integer> query) {
        TypoSearch x = new TypoSearch();
        x.begin(word.get(0), 0);
        word.subList(1, word.size()).forEach(s -> x.extend(0, s));
        query.forEach(x::type);
        int typos = Model.tryEdits(query, 0, word, 0, 0);
        String where = "word " + word + ", query " + query;
        due(where, "typos(0)", x.typos(0), typos);
        due(where, "found()", x.found(), bit(typos <= FORGIVEN[query.size()]));
    }

    public static void main(String[] args) {
        everyPair();
        Numbers numbers = new Numbers();
        for (int run = 1; run <= RUNS && wrong < 20; run++) {
            TypoSearch x = new TypoSearch();
            Model model = new Model();
            int[] pattern = new int[6];
            Arrays.setAll(pattern, place -> numbers.below(4));
            for (int call = 0; call < CALLS && wrong < 20; call++) {
                if (numbers.below(3) == 0) {
                    change(run, x, model, numbers, pattern);
                } else {
                    ask(run, x, model, numbers);
                }
            }
        }
        System.out.println(wrong == 0 ? "all answers are as the model's" : wrong + " wrong");
        System.exit(wrong == 0 ? 0 : 1);
    }
}
