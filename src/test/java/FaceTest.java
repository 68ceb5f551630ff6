import java.lang.reflect.Constructor;
import java.lang.reflect.Field;
import java.lang.reflect.Method;
import java.lang.reflect.Modifier;
import java.nio.file.Files;
import java.nio.file.Path;
import java.util.Arrays;
import java.util.Map;
import java.util.Set;
import java.util.TreeMap;
import java.util.TreeSet;
import java.util.regex.Pattern;

/** The public face of the document, and those rules of LANGUAGE.md that a text search can see. */
public final class FaceTest {
    private static final String[] FACE = {"int letter 1", "int blank 0", "int fault 0", "int list 0", "int about 2",
        "int as 2", "int person 2", "int heir 2", "int buy 3", "int lend 3", "int peace 1", "int death 1",
        "int mayHarm 2", "int harm 2", "int season 0", "int comeBy 3", "int marry 1", "int wills 2", "long left 3",
        "int register 2", "int forget 0", "int lapsed 1", "int years 3", "int image 0", "int restore 0", "int count 1",
        "long digest 0"};
    private static final String[] RULED_OUT = {"\\bthrow\\b", "\\bthrows\\b", "\\btry\\b", "\\bcatch\\b",
        "\\bsynchronized\\b", "\\bassert\\b", "->", "::", "@", "\\bSystem\\.(?!arraycopy\\b)", "\\bMath\\.\\w+Exact\\b",
        "\\bRandom\\b", "\\bThread\\b", "\\bpackage\\b", "\\bprotected\\b", "\\bstatic\\s*\\{", "\\bString\\b", "\\bvar\\b",
        "\\bimport (?!java\\.util\\.(Arrays|ArrayList|List);)"};

    private static final Tally tally = new Tally();

    public static void main(String[] args) throws Exception {
        constants();
        methods();
        nothingElse();
        text(Files.readString(Path.of(System.getProperty("closedfeuds.source", "src/main/java/ClosedFeuds.java"))));
        tally.end();
    }

    private static void constants() throws Exception {
        Map<String, Integer> want = new TreeMap<>(Map.of("NONE", -1, "UNKNOWN", -101, "OUTSIDE", -102, "STATE", -103,
                "FULL", -104));
        for (Field field : ClosedFeuds.class.getDeclaredFields()) {
            boolean isPublic = Modifier.isPublic(field.getModifiers());
            tally.due("field " + field.getName() + " is public", isPublic ? 1 : 0, want.containsKey(field.getName()) ? 1 : 0);
            if (isPublic) {
                tally.due(field.getName(), field.getInt(null), want.get(field.getName()));
            } else {
                tally.due("field " + field.getName() + " is private", Modifier.isPrivate(field.getModifiers()) ? 1 : 0, 1);
            }
        }
    }

    private static void methods() {
        Set<String> want = new TreeSet<>(Arrays.asList(FACE));
        Set<String> got = new TreeSet<>();
        Set<String> publicNames = new TreeSet<>();
        for (Method method : ClosedFeuds.class.getDeclaredMethods()) {
            if (Modifier.isPublic(method.getModifiers())) {
                got.add(method.getReturnType() + " " + method.getName() + " " + method.getParameterCount());
                publicNames.add(method.getName());
            }
        }
        tally.due("public methods " + got, got.equals(want) ? 1 : 0, 1);
        for (Method method : ClosedFeuds.class.getDeclaredMethods()) {
            if (!Modifier.isPublic(method.getModifiers()) && !method.isSynthetic()) {
                tally.due(method + " is private", Modifier.isPrivate(method.getModifiers()) ? 1 : 0, 1);
                tally.due(method + " has a public name", publicNames.contains(method.getName()) ? 1 : 0, 0);
                tally.due(method + " has seven parameters at most", method.getParameterCount() <= 7 ? 1 : 0, 1);
            }
        }
    }

    private static void nothingElse() {
        tally.due("public final class", ClosedFeuds.class.getModifiers(), Modifier.PUBLIC | Modifier.FINAL);
        Constructor<?>[] constructors = ClosedFeuds.class.getDeclaredConstructors();
        tally.due("constructors", constructors.length, 1);
        tally.due("public constructor", Modifier.isPublic(constructors[0].getModifiers()) ? 1 : 0, 1);
        tally.due("classes inside", ClosedFeuds.class.getDeclaredClasses().length <= 11 ? 1 : 0, 1);
        for (Class<?> inside : ClosedFeuds.class.getDeclaredClasses()) {
            tally.due(inside + " is static", Modifier.isStatic(inside.getModifiers()) ? 1 : 0, 1);
            tally.due(inside + " is public", Modifier.isPublic(inside.getModifiers()) ? 1 : 0, 0);
            for (Field field : inside.getDeclaredFields()) {
                boolean isConstant = !Modifier.isStatic(field.getModifiers()) || Modifier.isFinal(field.getModifiers());
                tally.due(field + " is no static state", isConstant ? 1 : 0, 1);
            }
        }
    }

    private static void text(String source) {
        String code = source.replaceAll("(?s)/\\*.*?\\*/", "").replaceAll("//[^\n]*", "");
        for (String ruledOut : RULED_OUT) {
            tally.due("'" + ruledOut + "' in the source", Pattern.compile(ruledOut).matcher(code).find() ? 1 : 0, 0);
        }
    }
}
