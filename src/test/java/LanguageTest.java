import java.io.IOException;
import java.lang.reflect.Executable;
import java.lang.reflect.Field;
import java.lang.reflect.Method;
import java.lang.reflect.Modifier;
import java.nio.file.Files;
import java.nio.file.Path;
import java.util.ArrayList;
import java.util.Arrays;
import java.util.HashMap;
import java.util.HashSet;
import java.util.List;
import java.util.Map;
import java.util.Set;
import java.util.TreeSet;
import java.util.regex.Matcher;
import java.util.regex.Pattern;

/** The rules of LANGUAGE.md that can be seen in the text of the class, or in the class, by their numbers. */
public final class LanguageTest {
    private static final String FILE = "src/main/java/RegionStack.java";
    private static final Set<String> FACE = Set.of("body", "say", "wipe", "fault", "parts", "kind", "well", "tells",
        "region", "home", "touches", "run", "words", "mixed", "image", "restore", "told");
    private static final Map<String, Integer> CONSTANTS =
        Map.of("NONE", -6, "UNKNOWN", -1, "OUTSIDE", -2, "STATE", -3, "FULL", -4, "NO", -5);
    private static final String[] NOT_SAID = {"throw", "throws", "try", "catch", "finally", "synchronized", "assert",
        "import", "package", "protected", "volatile", "transient", "native", "System", "Thread", "Random"};
    private static final Set<String> NO_CALLS = Set.of("if", "for", "while", "switch", "return", "this", "super");
    /** What the class needs of the library. */
    private static final Set<String> LIBRARY = Set.of("Math.max", "Math.min");
    private static final Pattern CLASS = Pattern.compile("^ *(?:public |private |static |final )*class (\\w+) \\{$");
    private static final Pattern METHOD =
        Pattern.compile("^( {4}| {8})(?:(?:public|private|static|final) )*(?:[\\w\\[\\]]+ )?(\\w+)\\([^;]*\\) \\{$");
    private static final Pattern CALL = Pattern.compile("(?:\\b([A-Z]\\w*)\\.)?\\b(\\w+)\\(");
    private static final int MOST_LINES_OF_METHOD = 60;
    private static final int MOST_CLASSES = 12;
    private static final int MOST_FIELDS = 20;
    private static final int MOST_PARAMETERS = 7;
    private static final int MOST_DEEP = 8;

    private static int wrong = 0;

    private static void fail(String what) {
        wrong++;
        System.out.println(what);
    }

    /** Without comments, and without what stands in signs and texts. */
    private static String bare(String text) {
        return text.replaceAll("(?s)/\\*.*?\\*/", "").replaceAll("//[^\\n]*", "")
            .replaceAll("'(\\\\.|[^'\\\\])'", "'s'").replaceAll("\"(\\\\.|[^\"\\\\])*\"", "\"\"");
    }

    private static boolean says(String code, String pattern) {
        return Pattern.compile(pattern).matcher(code).find();
    }

    private static void words(String text, String code) {
        for (String word : NOT_SAID) {
            if (says(code, "\\b" + word + "\\b")) {
                fail("rules 1, 4, 6: the class says " + word);
            }
        }
        if (says(code, "->|::")) {
            fail("rule 2: a lambda or a method reference");
        }
        if (says(code, "new \\w+\\([^;]*\\) \\{")) {
            fail("rule 2: a class without a name");
        }
        if (says(code, "\\bstatic \\{")) {
            fail("rule 5: a static initialiser");
        }
        if (says(code, "\\b(double|float)\\b")) {
            fail("rule 3: MIXED is found without them");
        }
        if (!text.chars().allMatch(sign -> sign == '\n' || sign >= 32 && sign < 127)) {
            fail("rule 4: a sign that is none of 32 to 126");
        }
    }

    // ---- what is made of the class

    private static List<Class<?>> classes() {
        List<Class<?>> all = new ArrayList<>(List.of(RegionStack.class));
        for (int i = 0; i < all.size(); i++) {
            all.addAll(Arrays.asList(all.get(i).getDeclaredClasses()));
        }
        return all;
    }

    private static void face() {
        Set<String> found = new TreeSet<>();
        for (Method method : RegionStack.class.getDeclaredMethods()) {
            int modifiers = method.getModifiers();
            boolean inFace = FACE.contains(method.getName());
            if (inFace ? !Modifier.isPublic(modifiers) || Modifier.isStatic(modifiers) : !Modifier.isPrivate(modifiers)) {
                fail("rule 1: a method that does not fit the face: " + method);
            }
            if (inFace && (method.getReturnType() != int.class || !found.add(method.getName()))) {
                fail("rule 1: a method that is not as in the face: " + method);
            }
            for (Class<?> parameter : method.getParameterTypes()) {
                if (inFace && parameter != int.class) {
                    fail("rule 1: a method that is not as in the face: " + method);
                }
            }
        }
        if (!found.equals(new TreeSet<>(FACE))) {
            fail("rule 1: of the face there are only " + found);
        }
        int modifiers = RegionStack.class.getModifiers();
        if (!Modifier.isFinal(modifiers) || !Modifier.isPublic(modifiers)) {
            fail("rule 1: the class is not public and final");
        }
        if (RegionStack.class.getDeclaredConstructors().length != 1 || RegionStack.class.getConstructors().length != 1
            || RegionStack.class.getConstructors()[0].getParameterCount() != 0) {
            fail("rule 1: the constructor is not as in the face");
        }
    }

    private static void constants() throws IllegalAccessException {
        for (Field field : RegionStack.class.getDeclaredFields()) {
            int modifiers = field.getModifiers();
            Integer due = CONSTANTS.get(field.getName());
            if (due == null ? !Modifier.isPrivate(modifiers) : !Modifier.isPublic(modifiers)) {
                fail("rule 1: a field that does not fit the face: " + field);
            }
            if (due != null && (field.getType() != int.class || field.getInt(null) != due)) {
                fail("rule 1: a constant that is not as in the face: " + field);
            }
        }
        if (RegionStack.class.getFields().length != CONSTANTS.size()) {
            fail("rule 1: not all constants of the face");
        }
    }

    private static void fields(Class<?> one, List<Class<?>> own) {
        int count = 0;
        for (Field field : one.getDeclaredFields()) {
            Class<?> type = field.getType();
            int modifiers = field.getModifiers();
            if (Modifier.isStatic(modifiers)) {
                if (!Modifier.isFinal(modifiers) || !type.isPrimitive() || type == double.class || type == float.class) {
                    fail("rule 5: " + field);
                }
                continue;
            }
            count++;
            Class<?> held = type.isArray() ? type.getComponentType() : type;
            if (!held.isPrimitive() && !own.contains(held)) {
                fail("rule 3: " + field);
            }
        }
        if (count > MOST_FIELDS) {
            fail("rule 11: " + count + " fields in " + one);
        }
    }

    private static void classesInside(List<Class<?>> own) {
        if (own.size() > MOST_CLASSES) {
            fail("rule 11: " + own.size() + " classes");
        }
        for (Class<?> one : own) {
            int modifiers = one.getModifiers();
            if (one != RegionStack.class && (!Modifier.isStatic(modifiers) || Modifier.isPublic(modifiers))) {
                fail("rules 1, 2: " + one);
            }
            fields(one, own);
            List<Executable> all = new ArrayList<>(Arrays.asList(one.getDeclaredMethods()));
            all.addAll(Arrays.asList(one.getDeclaredConstructors()));
            for (Executable method : all) {
                if (method.getParameterCount() > MOST_PARAMETERS) {
                    fail("rule 11: too many parameters: " + method);
                }
                if (Modifier.isPrivate(method.getModifiers()) && FACE.contains(method.getName())) {
                    fail("rule 1: a private method bears the name of a public one: " + method);
                }
            }
            for (String name : List.of("equals", "hashCode", "toString")) {
                if (Arrays.stream(one.getDeclaredMethods()).anyMatch(method -> method.getName().equals(name))) {
                    fail("rule 6: " + name + " of " + one);
                }
            }
        }
    }

    // ---- which method calls which

    /**
     * Methods by their names alone: two that bear one name are taken for one, which calls what either calls,
     * so a chain found here is never shorter than the true one. What stands in a class outside its methods
     * is done by its constructor.
     */
    private final Map<String, Set<String>> calls = new HashMap<>();
    private final Map<String, Integer> deeps = new HashMap<>();
    private final Set<String> ownClasses = new HashSet<>();

    private void readCalls(String code) {
        String inClass = "";
        String indent = "";
        String inMethod = "";
        int begin = 0;
        String[] lines = code.split("\n");
        for (int i = 0; i < lines.length; i++) {
            Matcher opensClass = CLASS.matcher(lines[i]);
            Matcher opensMethod = METHOD.matcher(lines[i]);
            boolean isMethod = inMethod.isEmpty() && opensMethod.matches() && !NO_CALLS.contains(opensMethod.group(2));
            if (opensClass.matches()) {
                inClass = opensClass.group(1);
                ownClasses.add(inClass);
                calls.putIfAbsent(inClass, new HashSet<>());
            } else if (isMethod) {
                indent = opensMethod.group(1);
                inMethod = opensMethod.group(2);
                begin = i;
                calls.putIfAbsent(inMethod, new HashSet<>());
            } else {
                readLine(lines[i], inMethod.isEmpty() ? inClass : inMethod);
            }
            if (!inMethod.isEmpty() && lines[i].equals(indent + "}")) {
                if (i - begin + 1 > MOST_LINES_OF_METHOD) {
                    fail("rule 11: " + (i - begin + 1) + " lines in " + inMethod);
                }
                inMethod = "";
            }
        }
    }

    private void readLine(String line, String caller) {
        Matcher call = CALL.matcher(line);
        while (call.find()) {
            String name = call.group(2);
            if (call.group(1) != null) {
                if (!LIBRARY.contains(call.group(1) + "." + name)) {
                    fail("rule 4: " + call.group());
                }
            } else if (!NO_CALLS.contains(name)) {
                calls.get(caller).add(name);
            }
        }
        if (says(line, "\\bnew ") && !ownClasses.contains(caller)) {
            fail("rule 12: " + caller + " makes something, which only constructors do: " + line.trim());
        }
    }

    /** How many calls stand open at once, this one counted; on is what calls it. */
    private int deep(String name, List<String> on) {
        if (on.contains(name)) {
            fail("rule 8: " + name + " is called in itself: " + on);
            return 0;
        }
        if (!calls.containsKey(name)) {
            fail("rule 4: " + name + " is none of the class's own, called by " + on);
            return 0;
        }
        if (!deeps.containsKey(name)) {
            List<String> chain = new ArrayList<>(on);
            chain.add(name);
            int most = 0;
            for (String called : calls.get(name)) {
                most = Math.max(most, deep(called, chain));
            }
            deeps.put(name, most + 1);
        }
        return deeps.get(name);
    }

    private void chains() {
        for (String name : calls.keySet()) {
            int deep = deep(name, List.of());
            if (deep > MOST_DEEP) {
                fail("rule 11: calls go " + deep + " deep from " + name);
            }
        }
        if (!calls.keySet().containsAll(FACE) || ownClasses.size() != classes().size()) {
            fail("the text of the class is not understood by this test");
        }
    }

    public static void main(String[] args) throws IOException, IllegalAccessException {
        String text = Files.readString(Path.of(FILE));
        String code = bare(text);
        words(text, code);
        face();
        constants();
        classesInside(classes());
        LanguageTest test = new LanguageTest();
        test.readCalls(code);
        test.chains();
        System.out.println(wrong == 0 ? "the class keeps to what can be seen" : wrong + " rules not kept");
        if (wrong != 0) {
            System.exit(1);
        }
    }
}
