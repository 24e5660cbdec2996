import java.io.IOException;
import java.lang.reflect.Method;
import java.lang.reflect.Modifier;
import java.nio.file.Files;
import java.nio.file.Path;
import java.util.Arrays;

/** README.md tells what is so: its example, line by line, and every call of the class. */
public final class ReadmeTest {
    private static final Due due = new Due();
    private static String readme;

    public static void main(String[] args) throws IOException {
        readme = Files.readString(Path.of("README.md"));
        example();
        everyCall();
        due.yes("how to run the tests", readme.contains(".ci/run"));
        due.end();
    }

    private static void line(String code, String told, Object got, Object want) {
        boolean found = readme.lines().anyMatch(line -> line.startsWith(code + ";") && line.contains("// " + told));
        due.yes(code + " with the words " + told, found);
        due.same(code, got, want);
    }

    private static void example() {
        LimbFloats f = new LimbFloats(24);
        line("LimbFloats f = new LimbFloats(24)", "24 bits; all slots +0", f.kind(7), LimbFloats.ZERO);
        line("f.load(0, 1, 0)", "slot 0 = 1 * 2^0", f.load(0, 1, 0), true);
        line("f.load(1, 3, 0)", "slot 1 = 3 * 2^0", f.load(1, 3, 0), true);
        line("f.mode(2)", "from now on upwards", f.mode(2), true);
        line("f.calculate(3, 0, 1, 7)", "slot 7 = slot 0 / slot 1", f.calculate(3, 0, 1, 7), true);
        line("f.kind(7)", "LimbFloats.NORMAL", f.kind(7), LimbFloats.NORMAL);
        line("f.exponent(7)", "-2", f.exponent(7), -2);
        line("f.bits(7, 0) | f.bits(7, 1) << 16", "M = 11184811", f.bits(7, 0) | f.bits(7, 1) << 16, 11184811);
        line("f.flags()", "1, INEXACT; then no flag is left", f.flags(), 1);
        due.same("flags that are left", f.flags(), 0);
    }

    private static void everyCall() {
        for (Method method : LimbFloats.class.getDeclaredMethods()) {
            if (Modifier.isPublic(method.getModifiers())) {
                String[] places = new String[method.getParameterCount()];
                Arrays.fill(places, "\\w+");
                String row = "\\| `" + method.getName() + "\\(" + String.join(", ", places) + "\\)` \\| .*";
                due.yes("a row for " + method, readme.lines().anyMatch(line -> line.matches(row)));
            }
        }
    }
}
