import java.io.IOException;
import java.lang.reflect.Field;
import java.lang.reflect.Method;
import java.lang.reflect.Modifier;
import java.nio.file.Files;
import java.nio.file.Path;
import java.util.HashSet;
import java.util.Map;
import java.util.Set;
import java.util.TreeMap;
import java.util.TreeSet;
import java.util.regex.Matcher;
import java.util.regex.Pattern;

/** The rules of LANGUAGE.md that can be seen from the text; what is public is looked at by PublicFaceTest. */
public final class LanguageTest {
    private static final String SOURCE = "src/main/java/LimbFloats.java";
    private static final int MOST_LINES = 60, MOST_DEPTH = 6, MOST_FIELDS = 40, MOST_PARAMETERS = 7;
    private static final String[] FORBIDDEN = {"import", "package", "float", "double", "String", "Math", "Integer", "Long",
        "System", "Arrays", "Object", "null", "throw", "throws", "try", "catch", "finally", "synchronized", "assert",
        "instanceof", "interface", "enum", "record", "protected", "abstract", "native", "var", "super", "getClass",
        "hashCode", "equals", "toString", "clone", "extends", "implements"};

    private static final Due due = new Due();
    private static final Map<String, String> bodies = new TreeMap<>();

    public static void main(String[] args) throws IOException {
        String code = Files.readString(Path.of(SOURCE)).replaceAll("(?s)/\\*.*?\\*/", "").replaceAll("//[^\n]*", "");
        members();
        words(code);
        for (Method method : LimbFloats.class.getDeclaredMethods()) {
            bodies.put(method.getName(), "");
        }
        findBodies(code);
        nestedCalls(code);
        for (String method : bodies.keySet()) {
            due.yes("calls below " + method, depth(method, new HashSet<>()) <= MOST_DEPTH);
        }
        due.end();
    }

    private static void members() {
        int fields = 0;
        for (Field field : LimbFloats.class.getDeclaredFields()) {
            boolean isStatic = Modifier.isStatic(field.getModifiers());
            fields += isStatic ? 0 : 1;
            Class<?> type = field.getType().isArray() ? field.getType().getComponentType() : field.getType();
            due.yes("type of " + field, type.isPrimitive() && type != float.class && type != double.class);
            due.yes("constant " + field, !isStatic || field.getType() == int.class || field.getType() == long.class);
            due.yes("final static " + field, !isStatic || Modifier.isFinal(field.getModifiers()));
        }
        due.yes("number of fields", fields <= MOST_FIELDS);
        Set<String> names = new HashSet<>();
        for (Method method : LimbFloats.class.getDeclaredMethods()) {
            due.yes("one method of the name " + method.getName(), names.add(method.getName()));
            due.yes("parameters of " + method, method.getParameterCount() <= MOST_PARAMETERS);
            due.no("array from " + method, method.getReturnType().isArray());
        }
    }

    private static void words(String code) {
        for (String word : FORBIDDEN) {
            due.no("the word " + word, Pattern.compile("\\b" + word + "\\b").matcher(code).find());
        }
        due.no("a lambda or a method reference", code.contains("->") || code.contains("::"));
        due.no("a text", code.contains("\""));
        String withoutFields = code.replaceAll("private final \\w+\\[\\] \\w+ = new \\w+\\[[A-Z]+\\];", "");
        due.no("an array made elsewhere", Pattern.compile("\\bnew\\b").matcher(withoutFields).find());
    }

    private static int closing(String code, int open) {
        char closer = code.charAt(open) == '(' ? ')' : '}';
        int depth = 0;
        for (int i = open; i < code.length(); i++) {
            depth += code.charAt(i) == code.charAt(open) ? 1 : code.charAt(i) == closer ? -1 : 0;
            if (depth == 0) {
                return i;
            }
        }
        throw new IllegalStateException("no closing " + closer);
    }

    private static void findBodies(String code) {
        Matcher heads = Pattern.compile("(?:public|private) \\w+ (\\w+)\\([^)]*\\) \\{").matcher(code);
        while (heads.find()) {
            String body = code.substring(heads.end() - 1, closing(code, heads.end() - 1));
            due.yes("length of " + heads.group(1), body.lines().count() <= MOST_LINES);
            bodies.put(heads.group(1), body);
        }
        bodies.forEach((name, body) -> due.no("no body found of " + name, body.isEmpty()));
    }

    private static Set<String> callsIn(String text) {
        Set<String> called = new TreeSet<>();
        Matcher calls = Pattern.compile("\\b(\\w+)\\(").matcher(text);
        while (calls.find()) {
            if (bodies.containsKey(calls.group(1))) {
                called.add(calls.group(1));
            }
        }
        return called;
    }

    private static void nestedCalls(String code) {
        Matcher calls = Pattern.compile("\\b(\\w+)\\(").matcher(code);
        while (calls.find()) {
            if (bodies.containsKey(calls.group(1))) {
                String arguments = code.substring(calls.end(), closing(code, calls.end() - 1));
                due.same("calls in the arguments of " + calls.group(1), callsIn(arguments).toString(), "[]");
            }
        }
    }

    /** How many methods deep the calls go, this one counted; far above every bound if one calls itself. */
    private static int depth(String method, Set<String> above) {
        if (!above.add(method)) {
            return 1000;
        }
        int deepest = 0;
        for (String called : callsIn(bodies.get(method))) {
            deepest = Math.max(deepest, depth(called, above));
        }
        above.remove(method);
        return deepest + 1;
    }
}
