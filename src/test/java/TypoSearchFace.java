import java.lang.reflect.Constructor;
import java.lang.reflect.Field;
import java.lang.reflect.Method;
import java.lang.reflect.Modifier;
import java.util.Set;
import java.util.TreeSet;

/** The public face of the document, and nothing visible beside it. */
public final class TypoSearchFace {
    private static int wrong = 0;

    private static void due(String what, Object got, Object want) {
        if (!got.equals(want)) {
            wrong++;
            System.out.println(what + " is " + got + ", due is " + want);
        }
    }

    public static void main(String[] args) {
        due("the class", Modifier.toString(TypoSearch.class.getModifiers()), "public final");
        due("NONE", TypoSearch.NONE, -1);
        due("FULL", TypoSearch.FULL, -2);
        due("visible members", visibleMembers(), new TreeSet<>(Set.of(
            "public static final int TypoSearch.NONE",
            "public static final int TypoSearch.FULL",
            "public TypoSearch()",
            "public int TypoSearch.begin(int,int)",
            "public boolean TypoSearch.extend(int,int)",
            "public boolean TypoSearch.remove(int)",
            "public boolean TypoSearch.weigh(int,int)",
            "public int TypoSearch.words()",
            "public int TypoSearch.type(int)",
            "public int TypoSearch.rub()",
            "public int TypoSearch.typed()",
            "public int TypoSearch.typos(int)",
            "public int TypoSearch.found()",
            "public int TypoSearch.at(int)",
            "public int TypoSearch.place(int)",
            "public int TypoSearch.hints()",
            "public int TypoSearch.common()")));
        System.out.println(wrong == 0 ? "the face is as due" : wrong + " wrong");
        System.exit(wrong == 0 ? 0 : 1);
    }

    private static Set<String> visibleMembers() {
        Set<String> visible = new TreeSet<>();
        for (Field field : TypoSearch.class.getDeclaredFields()) {
            if (!Modifier.isPrivate(field.getModifiers())) {
                visible.add(field.toString());
            }
        }
        for (Constructor<?> constructor : TypoSearch.class.getDeclaredConstructors()) {
            if (!Modifier.isPrivate(constructor.getModifiers())) {
                visible.add(constructor.toString());
            }
        }
        for (Method method : TypoSearch.class.getDeclaredMethods()) {
            if (!Modifier.isPrivate(method.getModifiers())) {
                visible.add(method.toString());
            }
        }
        return visible;
    }
}
