import java.io.IOException;
import java.lang.reflect.Method;
import java.lang.reflect.Modifier;
import java.nio.file.Files;
import java.nio.file.Path;
import java.util.regex.Matcher;
import java.util.regex.Pattern;

/** README.md holds: its calls answer what it says, its texts have no fault, and it names every call of the face. */
public final class ReadmeTest extends Calls {
    private static final Pattern MADE = Pattern.compile("new OneEyeTwoLegs\\((\\d+), (\\d+)\\);");
    private static final Pattern CALLED = Pattern.compile("town\\.(\\w+)\\(([^)]*)\\);\\s*// (-?\\d+|true|false)\\b.*");
    private static final Pattern TEXT = Pattern.compile("`((?:does|fears|likes) [^`]*;)`");

    private static Method face(String name) {
        for (Method m : OneEyeTwoLegs.class.getMethods()) {
            if (m.getName().equals(name)) return m;
        }
        throw new IllegalStateException("README.md calls " + name + ", which there is not");
    }

    private static Object[] numbers(String list) {
        if (list.isEmpty()) return new Object[0];
        String[] parts = list.split(", ");
        Object[] all = new Object[parts.length];
        for (int k = 0; k < parts.length; k++) all[k] = Integer.decode(parts[k]);
        return all;
    }

    private static void examples(String code) throws ReflectiveOperationException {
        Matcher made = MADE.matcher(code);
        if (!made.find()) throw new IllegalStateException("README.md makes no object");
        OneEyeTwoLegs town = new OneEyeTwoLegs(Integer.parseInt(made.group(1)), Integer.parseInt(made.group(2)));
        for (String row : code.substring(made.end()).split("\n")) {
            if (!row.contains("town.")) continue;
            Matcher called = CALLED.matcher(row);
            due("a call and its answer stand in: " + row, called.matches(), true);
            if (!called.matches()) continue;
            Object got = face(called.group(1)).invoke(town, numbers(called.group(2)));
            due(row.trim() + " (answered " + got + "): it holds", got.toString().equals(called.group(3)), true);
        }
    }

    private static void texts(String page) {
        Matcher text = TEXT.matcher(page);
        int count = 0;
        for (; text.find(); count++) due(text.group(1), read(new OneEyeTwoLegs(3, 2), text.group(1)), 0);
        due("texts on the page", count, 3);
    }

    private static void names(String page) {
        for (Method m : OneEyeTwoLegs.class.getDeclaredMethods()) {
            if (Modifier.isPublic(m.getModifiers())) due("it names " + m.getName(), page.contains("`" + m.getName() + "`"), true);
        }
    }

    public static void main(String[] args) throws IOException, ReflectiveOperationException {
        String page = Files.readString(Path.of("README.md"));
        int from = page.indexOf("```java\n");
        int to = page.indexOf("```\n", from + 8);
        if (from < 0 || to < 0) throw new IllegalStateException("README.md has no example");
        examples(page.substring(from + 8, to));
        texts(page.substring(to));
        names(page.substring(to));
        endOf("ReadmeTest");
    }
}
