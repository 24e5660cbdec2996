import java.io.IOException;
import java.lang.reflect.Constructor;
import java.lang.reflect.Field;
import java.lang.reflect.Method;
import java.lang.reflect.Modifier;
import java.nio.file.Files;
import java.nio.file.Path;
import java.util.ArrayList;
import java.util.Arrays;
import java.util.List;
import java.util.Set;
import java.util.TreeSet;

/** The section 'The public face': each of its lines is taken from the document itself. */
public final class PublicFaceTest {
    private static final String DOCUMENT = "../shared/DOC.md", SOURCE = "src/main/java/LimbFloats.java";
    private static final Due due = new Due();

    public static void main(String[] args) throws IOException {
        List<String> face = faceOf(Files.readString(Path.of(DOCUMENT)));
        String source = Files.readString(Path.of(SOURCE));
        due.same("lines of the face", face.size(), 19);
        for (String line : face) {
            due.sentence(line, () -> standsIn(source, line));
        }
        due.sentence("public final class LimbFloats", PublicFaceTest::classItself);
        due.sentence("public static final int ZERO = 0, SUBNORMAL = 1, NORMAL = 2, INFINITE = 3, NOT = 4",
            PublicFaceTest::constants);
        due.sentence("public LimbFloats(int precision)", PublicFaceTest::constructors);
        due.sentence("no method is public that is not in the face", () -> methods(face));
        due.end();
    }

    /** The lines of the first piece of Java in the document, but for the brace at its end. */
    private static List<String> faceOf(String document) {
        String[] pieces = document.split("```");
        List<String> lines = new ArrayList<>();
        for (String line : pieces[1].split("\n")) {
            String words = line.trim();
            if (words.startsWith("public")) {
                lines.add(words);
            }
        }
        return lines;
    }

    /** A method's line ends with its body in the source. */
    private static void standsIn(String source, String line) {
        String wanted = line.endsWith(");") ? line.replace(");", ") {") : line;
        int first = source.indexOf(wanted);
        due.yes("stands in the source", first >= 0);
        due.same("stands there once", source.lastIndexOf(wanted), first);
    }

    private static void classItself() {
        due.same("class", Modifier.toString(LimbFloats.class.getModifiers()), "public final");
        due.same("package", LimbFloats.class.getPackageName(), "");
        due.same("above it", LimbFloats.class.getSuperclass(), Object.class);
        due.same("interfaces", LimbFloats.class.getInterfaces().length, 0);
        due.same("classes in it", LimbFloats.class.getDeclaredClasses().length, 0);
    }

    private static void constants() {
        Set<String> found = new TreeSet<>();
        for (Field field : LimbFloats.class.getDeclaredFields()) {
            if (!Modifier.isPrivate(field.getModifiers())) {
                found.add(field.getName() + " = " + valueOf(field));
                due.same("modifiers of " + field, Modifier.toString(field.getModifiers()), "public static final");
                due.same("type of " + field, field.getType(), int.class);
            }
        }
        due.same("constants", found.toString(), "[INFINITE = 3, NORMAL = 2, NOT = 4, SUBNORMAL = 1, ZERO = 0]");
    }

    private static Object valueOf(Field field) {
        try {
            return field.get(null);
        } catch (IllegalAccessException | NullPointerException refused) {
            return refused;
        }
    }

    private static void constructors() {
        Constructor<?>[] found = LimbFloats.class.getDeclaredConstructors();
        due.same("constructors", Arrays.toString(found), "[public LimbFloats(int)]");
    }

    private static void methods(List<String> face) {
        Set<String> named = new TreeSet<>();
        for (String line : face) {
            if (line.endsWith(");") && !line.startsWith("public LimbFloats")) {
                named.add(line.replaceAll(" \\w+([,)])", "$1").replace(";", ""));
            }
        }
        Set<String> found = new TreeSet<>();
        for (Method method : LimbFloats.class.getDeclaredMethods()) {
            if (!Modifier.isPrivate(method.getModifiers())) {
                found.add(headOf(method));
            }
        }
        due.same("methods", found.toString(), named.toString());
    }

    private static String headOf(Method method) {
        String parameters = Arrays.toString(method.getParameterTypes());
        String modifiers = Modifier.toString(method.getModifiers());
        return modifiers + " " + method.getReturnType() + " " + method.getName() + "("
            + parameters.substring(1, parameters.length() - 1) + ")";
    }
}
