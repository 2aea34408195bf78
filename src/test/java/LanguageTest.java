import java.io.IOException;
import java.nio.file.Files;
import java.nio.file.Path;
import java.util.regex.Matcher;
import java.util.regex.Pattern;

/** The rules of LANGUAGE.md that can be seen in the text of the class, and its face. */
public final class LanguageTest {
    private static final String FILE = "src/main/java/RegionStack.java";
    private static final String[] NOT_SAID = {"throw", "throws", "try", "catch", "finally", "synchronized", "assert",
        "import", "package", "protected", "instanceof Object", "Float", "Double", "System", "Thread", "Random", "lambda"};
    private static final int MOST_LINES_OF_METHOD = 60;
    private static final int MOST_CLASSES = 12;

    private static int wrong = 0;

    private static void fail(String what) {
        wrong++;
        System.out.println(what);
    }

    private static String withoutComments(String text) {
        return text.replaceAll("(?s)/\\*.*?\\*/", "").replaceAll("//[^\\n]*", "");
    }

    private static int count(String text, String pattern) {
        Matcher matcher = Pattern.compile(pattern).matcher(text);
        int count = 0;
        while (matcher.find()) {
            count++;
        }
        return count;
    }

    private static void words(String code) {
        for (String word : NOT_SAID) {
            if (count(code, "\\b" + word + "\\b") > 0) {
                fail("the class says " + word);
            }
        }
        if (code.contains("->") || code.contains("::")) {
            fail("a lambda or a method reference");
        }
        if (count(code, "\\bclass\\b") > MOST_CLASSES) {
            fail("too many classes");
        }
    }

    private static void methodLengths(String code) {
        int start = -1;
        String[] lines = code.split("\n");
        for (int i = 0; i < lines.length; i++) {
            if (lines[i].matches(" {4,8}\\S.*\\) \\{")) {
                start = i;
            } else if (lines[i].matches(" {4,8}\\}") && start >= 0) {
                if (i - start > MOST_LINES_OF_METHOD) {
                    fail("a long method at line " + start);
                }
                start = -1;
            }
        }
    }

    private static void face() {
        for (java.lang.reflect.Method method : RegionStack.class.getDeclaredMethods()) {
            boolean isPublic = java.lang.reflect.Modifier.isPublic(method.getModifiers());
            boolean isPrivate = java.lang.reflect.Modifier.isPrivate(method.getModifiers());
            boolean inFace = ("body say wipe fault parts kind well tells region home touches run words mixed"
                + " image restore told").matches(".*\\b" + method.getName() + "\\b.*");
            if (inFace != isPublic || isPublic == isPrivate) {
                fail("a method that does not fit the face: " + method);
            }
        }
        for (java.lang.reflect.Field field : RegionStack.class.getDeclaredFields()) {
            boolean isConstant = ("NONE UNKNOWN OUTSIDE STATE FULL NO").matches(".*\\b" + field.getName() + "\\b.*");
            int modifiers = field.getModifiers();
            if (isConstant != java.lang.reflect.Modifier.isPublic(modifiers)
                || isConstant == java.lang.reflect.Modifier.isPrivate(modifiers)) {
                fail("a field that does not fit the face: " + field);
            }
        }
        if (!java.lang.reflect.Modifier.isFinal(RegionStack.class.getModifiers())) {
            fail("the class is not final");
        }
    }

    public static void main(String[] args) throws IOException {
        String code = withoutComments(Files.readString(Path.of(FILE)));
        words(code);
        methodLengths(code);
        face();
        System.out.println(wrong == 0 ? "the class keeps to what can be seen" : wrong + " rules not kept");
        if (wrong != 0) {
            System.exit(1);
        }
    }
}
