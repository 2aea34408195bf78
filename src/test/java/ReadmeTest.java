import java.io.IOException;
import java.lang.reflect.Constructor;
import java.lang.reflect.Field;
import java.lang.reflect.Method;
import java.lang.reflect.Modifier;
import java.nio.file.Files;
import java.nio.file.Path;
import java.util.List;
import java.util.regex.Matcher;
import java.util.regex.Pattern;

/** What README.md tells: its example answers what stands behind each call, and its tables leave nothing out. */
public final class ReadmeTest extends Asks {
    private static final Path FILE = Path.of("README.md");
    private static final Pattern MADE = Pattern.compile("RegionStack x = new RegionStack\\(\\);");
    private static final Pattern SAID =
        Pattern.compile("for \\(char sign : \"(.*)\"\\.toCharArray\\(\\)\\) x\\.say\\((\\d), sign\\);");
    private static final Pattern CALLED = Pattern.compile("x\\.(\\w+)\\((.*?)\\); +// (-?\\d+)\\b.*");

    private static Method ofTheFace(String name) {
        for (Method method : RegionStack.class.getDeclaredMethods()) {
            if (method.getName().equals(name) && Modifier.isPublic(method.getModifiers())) {
                return method;
            }
        }
        throw new AssertionError("README.md calls " + name + ", which is not in the face");
    }

    private static Object[] numbers(String told) {
        String[] parts = told.isEmpty() ? new String[0] : told.split(", ");
        Object[] numbers = new Object[parts.length];
        for (int i = 0; i < parts.length; i++) {
            numbers[i] = parts[i].startsWith("'") ? (int) parts[i].charAt(1) : Integer.parseInt(parts[i]);
        }
        return numbers;
    }

    private static void example(List<String> lines) throws ReflectiveOperationException {
        sentence("README.md: how to use it");
        int begin = lines.indexOf("```java");
        int end = begin + 1 + lines.subList(begin + 1, lines.size()).indexOf("```");
        RegionStack x = null;
        int calls = 0;
        for (String line : lines.subList(begin + 1, end)) {
            Matcher said = SAID.matcher(line);
            Matcher called = CALLED.matcher(line);
            if (MADE.matcher(line).matches()) {
                x = new RegionStack();
            } else if (said.matches()) {
                say(x, Integer.parseInt(said.group(2)), said.group(1));
            } else if (called.matches()) {
                Object answer = ofTheFace(called.group(1)).invoke(x, numbers(called.group(2)));
                due(line, (Integer) answer, Integer.parseInt(called.group(3)));
                calls++;
            } else {
                due("is understood: " + line, line.isEmpty() || line.startsWith("//") ? 1 : 0, 1);
            }
        }
        due("there is an example", calls > 0 ? 1 : 0, 1);
    }

    /** A row for each call with as many numbers as it takes, and one for each constant with its number. */
    private static void tables(String text) throws ReflectiveOperationException {
        sentence("README.md: the calls, and what they answer");
        for (Constructor<?> constructor : RegionStack.class.getConstructors()) {
            due("a row for " + constructor, text.contains("\n| `new RegionStack()` | ") ? 1 : 0, 1);
        }
        for (Method method : RegionStack.class.getDeclaredMethods()) {
            if (Modifier.isPublic(method.getModifiers())) {
                Matcher row = Pattern.compile("\n\\| `" + method.getName() + "\\(([^)]*)\\)` \\| ").matcher(text);
                boolean isThere = row.find();
                due("a row for " + method.getName(), isThere ? 1 : 0, 1);
                int told = !isThere || row.group(1).isEmpty() ? 0 : row.group(1).split(", ").length;
                due("the numbers in the row for " + method.getName(), told, method.getParameterCount());
            }
        }
        for (Field field : RegionStack.class.getFields()) {
            String number = " " + field.getInt(null) + "\\b";
            boolean isThere = Pattern.compile("`" + field.getName() + "` (\\||is)" + number).matcher(text).find();
            due("the number of " + field.getName(), isThere ? 1 : 0, 1);
        }
    }

    /** That who reads the page finds each test there, and finds no test there that there is not. */
    private static void tests(String text) {
        sentence("README.md: how to run its tests");
        String[] files = FILE.toAbsolutePath().resolveSibling("src/test/java").toFile().list();
        due("there are tests", files == null ? 0 : 1, 1);
        List<String> names = List.of(files);
        for (String name : names) {
            if (name.endsWith("Test.java")) {
                String told = "`" + name.replace(".java", "") + "`";
                due(told + " is told", text.contains(told) ? 1 : 0, 1);
            }
        }
        Matcher told = Pattern.compile("`(\\w+Test)`").matcher(text);
        while (told.find()) {
            due(told.group(1) + " is there", names.contains(told.group(1) + ".java") ? 1 : 0, 1);
        }
    }

    public static void main(String[] args) throws IOException, ReflectiveOperationException {
        String text = Files.readString(FILE);
        example(Files.readAllLines(FILE));
        tables(text);
        tests(text);
        end();
    }
}
