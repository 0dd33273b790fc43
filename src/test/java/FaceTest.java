import java.io.IOException;
import java.lang.reflect.Constructor;
import java.lang.reflect.Field;
import java.lang.reflect.Method;
import java.lang.reflect.Modifier;
import java.nio.file.Files;
import java.nio.file.Path;
import java.util.List;
import java.util.Set;
import java.util.TreeSet;
import java.util.regex.Pattern;

/** The class has the document's face and no more, and keeps to what LANGUAGE.md lets be seen from outside. */
public final class FaceTest {
    private static int wrong = 0;

    private static void due(String what, Object got, Object want) {
        if (!got.equals(want)) {
            wrong++;
            System.out.println(what + " is " + got + ", due is " + want);
        }
    }

    private static final Set<String> FACE = Set.of(
            "int row(int, int, int)", "int column(int, int, long)", "int word(int, int, boolean)",
            "int parts(int, int, int, int, int)", "int quota(int, int)", "int split(int, long, int)",
            "int folds(int, long)", "int nested(int, int, long)", "int of(int)", "int many(int, int)",
            "int share(int, int, int)", "int over(int)", "int near(int)", "int fit(int, int)",
            "int base(int, int)", "int leaks(int)", "int leak(int, int, int)", "int meets()",
            "boolean same(int, long, int)", "int told(int)");

    private static final List<Class<?>> THROWN_BY_SHARE = List.of(
            IndexOutOfBoundsException.class, IllegalArgumentException.class, ArithmeticException.class);

    private static String signature(Method m) {
        StringBuilder text = new StringBuilder(m.getReturnType() + " " + m.getName() + "(");
        for (Class<?> type : m.getParameterTypes()) {
            text.append(text.charAt(text.length() - 1) == '(' ? "" : ", ").append(type);
        }
        return text.append(")").toString();
    }

    private static void methods() {
        Set<String> seen = new TreeSet<>();
        Set<String> publicNames = new TreeSet<>();
        for (Method m : SplitLeaks.class.getDeclaredMethods()) {
            if (!Modifier.isPrivate(m.getModifiers())) {
                seen.add(signature(m));
                publicNames.add(m.getName());
                due(m.getName() + " is public", Modifier.isPublic(m.getModifiers()), true);
                due(m.getName() + " is static", Modifier.isStatic(m.getModifiers()), false);
                due("what " + m.getName() + " throws", List.of(m.getExceptionTypes()),
                        m.getName().equals("share") ? THROWN_BY_SHARE : List.of());
            }
        }
        due("the methods", seen, new TreeSet<>(FACE));
        for (Method m : SplitLeaks.class.getDeclaredMethods()) {
            if (Modifier.isPrivate(m.getModifiers())) {
                keepsToTheRules(m, publicNames);
            }
        }
        for (Class<?> inside : SplitLeaks.class.getDeclaredClasses()) {
            for (Method m : inside.getDeclaredMethods()) {
                keepsToTheRules(m, publicNames);
            }
        }
    }

    private static void keepsToTheRules(Method m, Set<String> publicNames) {
        due(m + " bears a name of the face", publicNames.contains(m.getName()), false);
        due(m + " takes more than seven parameters", m.getParameterCount() > 7, false);
    }

    private static void fields() {
        Set<String> seen = new TreeSet<>();
        for (Field f : SplitLeaks.class.getDeclaredFields()) {
            if (Modifier.isStatic(f.getModifiers())) {
                due(f + " is a constant", Modifier.isFinal(f.getModifiers()) && f.getType() == int.class, true);
            }
            if (!Modifier.isPrivate(f.getModifiers())) {
                seen.add(Modifier.toString(f.getModifiers()) + " " + f.getType() + " " + f.getName());
            }
        }
        due("the fields", seen, new TreeSet<>(Set.of("public static final int NONE", "public static final int BAD",
                "public static final int FULL", "public static final int STATE")));
        due("NONE", SplitLeaks.NONE, -1);
        due("BAD", SplitLeaks.BAD, -2);
        due("FULL", SplitLeaks.FULL, -3);
        due("STATE", SplitLeaks.STATE, -4);
    }

    private static void classes() {
        due("the class", Modifier.toString(SplitLeaks.class.getModifiers()), "public final");
        Constructor<?>[] constructors = SplitLeaks.class.getDeclaredConstructors();
        due("the constructors", constructors.length, 1);
        due("the constructor", constructors[0].toString(), "public SplitLeaks()");
        for (Class<?> inside : SplitLeaks.class.getDeclaredClasses()) {
            due(inside + " is static", Modifier.isStatic(inside.getModifiers()), true);
            due(inside + " is seen from outside", Modifier.isPublic(inside.getModifiers())
                    || Modifier.isProtected(inside.getModifiers()), false);
            due(inside + " has at most 20 fields", inside.getDeclaredFields().length <= 20, true);
            for (Field f : inside.getDeclaredFields()) {
                due(f + " is static", Modifier.isStatic(f.getModifiers()), false);
            }
        }
        due("at most twelve classes", SplitLeaks.class.getDeclaredClasses().length < 12, true);
    }

    private static void text() throws IOException {
        String source = Files.readString(Path.of("src/main/java/SplitLeaks.java"));
        for (String word : new String[] {"\\bpackage\\b", "\\bimport\\b", "\\bcatch\\b", "\\bfinally\\b", "->", "::",
                "\\bassert\\b", "\\bsynchronized\\b", "\\bstatic \\{", "\\bdouble\\b", "\\bfloat\\b", "Exact\\b"}) {
            due("the source has " + word, Pattern.compile(word).matcher(source).find(), false);
        }
    }

    public static void main(String[] args) throws IOException {
        methods();
        fields();
        classes();
        text();
        System.out.println(wrong == 0 ? "the face is as due" : wrong + " things are not as due");
        if (wrong != 0) {
            System.exit(1);
        }
    }
}
