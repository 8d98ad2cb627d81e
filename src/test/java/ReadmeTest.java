import java.lang.reflect.Method;
import java.lang.reflect.Modifier;
import java.nio.file.Files;
import java.nio.file.Path;
import java.util.Set;
import java.util.TreeSet;
import java.util.regex.Matcher;
import java.util.regex.Pattern;

/** README.md's example: each of its calls answers what stands behind it, and every call of the face is there. */
public final class ReadmeTest {
    private static final Pattern CALL = Pattern.compile("x\\.(\\w+)\\((.*)\\); +// (true|false|-?\\d+)");
    private static final Pattern FEED = Pattern.compile("feed\\(x, \"(.*)\"\\);");

    private ReadmeTest() {
    }

    public static void main(String[] args) throws Exception {
        RowDrawer x = new RowDrawer();
        Set<String> called = new TreeSet<>();
        for (String line : example().split("\n")) {
            Matcher call = CALL.matcher(line);
            Matcher feed = FEED.matcher(line);
            if (call.matches()) {
                called.add(call.group(1));
                Check.due("README.md: " + line, answer(x, call.group(1), call.group(2)).equals(call.group(3)), true);
            } else if (feed.matches()) {
                Check.feed(x, feed.group(1));
            } else {
                boolean isBegin = line.equals("RowDrawer x = new RowDrawer();");
                boolean isOther = isBegin || line.isEmpty() || line.startsWith("//");
                Check.due("README.md's line can be tried: " + line, isOther, true);
            }
        }
        everyCallIsShown(called);
        Check.end();
    }

    private static String example() throws Exception {
        String begin = "```java\nRowDrawer x";
        String page = Files.readString(Path.of("README.md"));
        int from = page.indexOf(begin);
        int end = from < 0 ? -1 : page.indexOf("\n```", from + begin.length());
        Check.due("README.md has an example", end > 0, true);
        return end > 0 ? page.substring(from + "```java\n".length(), end) : "";
    }

    private static String answer(RowDrawer x, String name, String told) throws Exception {
        String[] parts = told.isEmpty() ? new String[0] : told.split(", ");
        for (Method method : RowDrawer.class.getMethods()) {
            if (method.getName().equals(name) && method.getParameterCount() == parts.length) {
                Object[] values = new Object[parts.length];
                for (int i = 0; i < parts.length; i++) {
                    boolean isBoolean = method.getParameterTypes()[i] == boolean.class;
                    values[i] = isBoolean ? (Object) Boolean.valueOf(parts[i]) : (Object) Integer.valueOf(parts[i]);
                }
                return String.valueOf(method.invoke(x, values));
            }
        }
        return "no such call";
    }

    // feed stands in a method of its own.
    private static void everyCallIsShown(Set<String> called) {
        for (Method method : RowDrawer.class.getDeclaredMethods()) {
            String name = method.getName();
            if (Modifier.isPublic(method.getModifiers()) && !name.equals("feed")) {
                Check.due("README.md shows " + name, called.contains(name), true);
            }
        }
    }
}
