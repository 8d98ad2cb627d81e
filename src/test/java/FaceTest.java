import java.lang.reflect.Field;
import java.lang.reflect.Method;
import java.lang.reflect.Modifier;
import java.nio.file.Files;
import java.nio.file.Path;
import java.util.Arrays;
import java.util.Set;
import java.util.TreeSet;

/** The class's face, and the rules of LANGUAGE.md that a look at the class or its text can show. */
public final class FaceTest {
    private static final Set<String> FACE = new TreeSet<>(Arrays.asList(
        "boolean sort(int,int)", "boolean join(int,int)", "int word(int)", "int sentence()", "boolean take(int)",
        "int feed(long,long,long)", "int text()", "int finds()", "int find(int,int)", "int rows(int)",
        "int row(int,int,int)", "int quarrel(int,int)", "int mark(int,int,int,int,boolean)", "int rule(int,int)",
        "int best(int)", "int learn(int)", "int learnt(int,int)", "int catches(boolean)", "int named(int)",
        "int count(int)"));
    private static final String[] BARRED_TEXTS = {"->", "::", "try {", "catch (", "finally", "synchronized", "assert ",
        "protected ", "Exact(", "Object", "Map", "Set<", "package "};

    private FaceTest() {
    }

    public static void main(String[] args) throws Exception {
        Class<?> face = RowDrawer.class;
        Check.due("public and final", face.getModifiers(), Modifier.PUBLIC | Modifier.FINAL);
        Check.due("one constructor", face.getConstructors().length, 1);
        Check.due("the constant NONE", RowDrawer.NONE, -1);
        methods(face);
        fields(face);
        for (Class<?> inside : face.getDeclaredClasses()) {
            Check.due(inside + " is static", Modifier.isStatic(inside.getModifiers()), true);
            fields(inside);
            for (Method method : inside.getDeclaredMethods()) {
                Check.due(method + " has a name of its own", isFaceName(method.getName()), false);
                Check.due(method + " takes seven at most", method.getParameterCount() <= 7, true);
            }
        }
        Check.due("some twelve classes", face.getDeclaredClasses().length <= 12, true);
        text();
        Check.end();
    }

    private static void methods(Class<?> face) {
        Set<String> seen = new TreeSet<>();
        for (Method method : face.getDeclaredMethods()) {
            if (Modifier.isPublic(method.getModifiers())) {
                seen.add(told(method));
            } else {
                Check.due(method + " is private", Modifier.isPrivate(method.getModifiers()), true);
                Check.due(method + " has a name of its own", isFaceName(method.getName()), false);
            }
        }
        Check.due("the face is as told: " + seen, seen.equals(FACE), true);
    }

    private static String told(Method method) {
        StringBuilder types = new StringBuilder();
        for (Class<?> type : method.getParameterTypes()) {
            types.append(types.length() == 0 ? "" : ",").append(type.getName());
        }
        return method.getReturnType().getName() + " " + method.getName() + "(" + types + ")";
    }

    private static boolean isFaceName(String name) {
        for (String method : FACE) {
            if (method.contains(" " + name + "(")) {
                return true;
            }
        }
        return false;
    }

    private static void fields(Class<?> type) {
        int own = 0;
        for (Field field : type.getDeclaredFields()) {
            boolean isStatic = Modifier.isStatic(field.getModifiers());
            own += isStatic ? 0 : 1;
            Check.due(field + " is final if static", !isStatic || Modifier.isFinal(field.getModifiers()), true);
            Check.due(field + " is private", Modifier.isPrivate(field.getModifiers()) || field.getName().equals("NONE"),
                true);
        }
        Check.due(type + " has some twenty fields at most", own <= 20, true);
    }

    private static void text() throws Exception {
        String text = Files.readString(Path.of("src/main/java/RowDrawer.java"));
        for (String barred : BARRED_TEXTS) {
            Check.due("the text has '" + barred + "'", text.contains(barred), false);
        }
        for (String line : text.split("\n")) {
            boolean isImport = line.startsWith("import ");
            Check.due(line, isImport && !line.equals("import java.util.Arrays;")
                && !line.equals("import java.util.NoSuchElementException;"), false);
        }
    }
}
