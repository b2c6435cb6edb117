/** The calls that README.md shows, each with the answer that stands beside it there. */
public final class TypoSearchReadme {
    private static int wrong = 0;

    private static void due(String call, Object got, Object want) {
        if (!got.equals(want)) {
            wrong++;
            System.out.println(call + " answered " + got + ", README.md says " + want);
        }
    }

    private static void words(TypoSearch search) {
        due("begin(0, 5)", search.begin(0, 5), 0);
        due("extend(0, 1)", search.extend(0, 1), true);
        due("extend(0, 2)", search.extend(0, 2), true);
        due("extend(0, 3)", search.extend(0, 3), true);
        due("begin(0, 7)", search.begin(0, 7), 1);
        due("extend(1, 2)", search.extend(1, 2), true);
        due("words()", search.words(), 3);
    }

    private static void query(TypoSearch search) {
        due("type(0)", search.type(0), 2);
        due("common()", search.common(), 1);
        due("type(2)", search.type(2), 1);
        due("type(2)", search.type(2), 2);
        due("typed()", search.typed(), 3);
        due("found()", search.found(), 3);
        due("typos(0)", search.typos(0), 1);
        due("at(0)", search.at(0), 1);
        due("place(0)", search.place(0), 1);
        due("hints()", search.hints(), 8);
        due("rub()", search.rub(), 2);
    }

    private static void changes(TypoSearch search) {
        due("weigh(0, 9)", search.weigh(0, 9), true);
        due("remove(1)", search.remove(1), true);
        due("at(0)", search.at(0), TypoSearch.NONE);
    }

    public static void main(String[] args) {
        TypoSearch search = new TypoSearch();
        words(search);
        query(search);
        changes(search);
        System.out.println(wrong == 0 ? "README.md's answers are as given" : wrong + " wrong");
        System.exit(wrong == 0 ? 0 : 1);
    }
}
