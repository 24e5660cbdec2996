import java.util.ArrayList;
import java.util.List;

public final class Terms4OperationsTest {
    private static final int ADD = Trial.ADD, SUBTRACT = Trial.SUBTRACT, MULTIPLY = Trial.MULTIPLY, DIVIDE = Trial.DIVIDE;
    private static final int REMAINDER = Trial.REMAINDER, GREATEST = Trial.GREATEST;
    private static final String[] SIZES = {"1p-110s", "1p-100", "3p0", "2047p90"};
    private static final String[] ALL = {"+0", "-0", "+1p-110s", "-1p-110s", "+3p0", "-3p0", "+2047p90", "-2047p90",
        "+inf", "-inf", "not"};
    private static final Due due = new Due();

    public static void main(String[] args) {
        due.sentence("OPERATIONS on x, y, z give the exact result, rounded", Terms4OperationsTest::roundedOnce);
        due.sentence("If an operand is not a number, so is the result, without a flag", Terms4OperationsTest::notANumber);
        due.sentence("INVALID, and the result not a number: infinities added that have opposite signs",
            Terms4OperationsTest::sums);
        due.sentence("(subtracted: the same)", Terms4OperationsTest::differences);
        due.sentence("infinities added, in the fused sum", Terms4OperationsTest::fusedInfinities);
        due.sentence("zero times infinite", Terms4OperationsTest::zeroTimesInfinite);
        due.sentence("zero / zero", Terms4OperationsTest::zeroByZero);
        due.sentence("infinite / infinite", Terms4OperationsTest::infiniteByInfinite);
        due.sentence("the root of something below 0", Terms4OperationsTest::rootBelowZero);
        due.sentence("(not of -0)", () -> root("-0", "-0 0"));
        due.sentence("remainder of something infinite", Terms4OperationsTest::remainderOfInfinite);
        due.sentence("or by zero", Terms4OperationsTest::remainderByZero);
        due.sentence("Infinite operands otherwise: the limit, of sums", Terms4OperationsTest::limitOfSums);
        due.sentence("Infinite operands otherwise: the limit, of products", Terms4OperationsTest::limitOfProducts);
        due.sentence("Infinite operands otherwise: the limit, of fused sums", Terms4OperationsTest::limitOfFusedSums);
        due.sentence("Infinite operands otherwise: the limit, of the others", Terms4OperationsTest::limitOfOthers);
        due.sentence("Signs of products and quotients are those of the operands multiplied", Terms4OperationsTest::signs);
        due.sentence("also of zeros and infinities", Terms4OperationsTest::signsOfZerosAndInfinities);
        due.sentence("division of a finite number by zero is infinite", Terms4OperationsTest::finiteByZero);
        due.sentence("by something infinite zero", Terms4OperationsTest::finiteByInfinite);
        due.end();
    }

    private static void is(int op, String x, String y, String want) {
        for (int mode = 0; mode < 5; mode++) {
            due.same(x + " op " + op + " " + y + " in mode " + mode, Trial.calculated(11, mode, op, x, y), want);
        }
    }

    private static void fused(String x, String y, String z, String want) {
        for (int mode = 0; mode < 5; mode++) {
            due.same(x + " * " + y + " + " + z + " in mode " + mode, Trial.fused(11, mode, x, y, z), want);
        }
    }

    private static void root(String x, String want) {
        for (int mode = 0; mode < 5; mode++) {
            due.same("root of " + x + " in mode " + mode, Trial.rooted(11, mode, x), want);
        }
    }

    private static List<String> finite() {
        List<String> both = new ArrayList<>();
        for (String size : SIZES) {
            both.add("+" + size);
            both.add("-" + size);
        }
        return both;
    }

    private static String times(String x, String y) {
        return x.charAt(0) == y.charAt(0) ? "+" : "-";
    }

    /** Where a result that is rounded before would round to another one. */
    private static void roundedOnce() {
        // 1 3/4 * 1 3/4 is 3 1/16: at 3 bits 3, but a little above it.
        due.same("49/16", Trial.calculated(3, 2, MULTIPLY, "+7p-2", "+7p-2"), "+7p-1 1");
        // 35/64 of the least float would be 32/64 at 3 bits, and that a tie.
        due.same("35/64 of the least float", Trial.calculated(3, 0, MULTIPLY, "+5p-50", "+7p-58"), "+1p-102s 3");
        due.same("5 * 7 + 1 at 3 bits", Trial.fused(3, 4, "+5p0", "+7p0", "+1p0"), "+5p3 1");
        due.same("1 / 3 up", Trial.calculated(64, 2, DIVIDE, "+1p0", "+3p0"), "+12297829382473034411p-65 1");
        due.same("1 / 3 down", Trial.calculated(64, 3, DIVIDE, "+1p0", "+3p0"), "+6148914691236517205p-64 1");
    }

    private static void notANumber() {
        for (String other : ALL) {
            for (int op = ADD; op <= GREATEST; op++) {
                is(op, "not", other, "not 0");
                is(op, other, "not", "not 0");
            }
            for (String third : ALL) {
                fused("not", other, third, "not 0");
                fused(other, "not", third, "not 0");
                fused(other, third, "not", "not 0");
            }
        }
        root("not", "not 0");
        for (int mode = 0; mode < 5; mode++) {
            due.same("whole", Trial.madeWhole(11, mode, "not"), "not 0");
            due.same("scale", Trial.scaled(11, mode, "not", 400), "not 0");
            due.same("scale", Trial.scaled(11, mode, "not", -400), "not 0");
            due.same("step up", Trial.stepped(11, mode, "not", true), "not 0");
            due.same("step down", Trial.stepped(11, mode, "not", false), "not 0");
        }
    }

    private static void sums() {
        is(ADD, "+inf", "-inf", "not 16");
        is(ADD, "-inf", "+inf", "not 16");
        is(ADD, "+inf", "+inf", "+inf 0");
        is(ADD, "-inf", "-inf", "-inf 0");
    }

    private static void differences() {
        is(SUBTRACT, "+inf", "+inf", "not 16");
        is(SUBTRACT, "-inf", "-inf", "not 16");
        is(SUBTRACT, "+inf", "-inf", "+inf 0");
        is(SUBTRACT, "-inf", "+inf", "-inf 0");
    }

    private static void fusedInfinities() {
        List<String> factors = finite();
        factors.add("+inf");
        factors.add("-inf");
        for (String factor : factors) {
            for (String infinite : new String[] {"+inf", "-inf"}) {
                String sign = times(factor, infinite);
                String other = sign.equals("+") ? "-" : "+";
                fused(factor, infinite, other + "inf", "not 16");
                fused(infinite, factor, other + "inf", "not 16");
                fused(factor, infinite, sign + "inf", sign + "inf 0");
                fused(infinite, factor, sign + "inf", sign + "inf 0");
            }
        }
    }

    private static void zeroTimesInfinite() {
        for (String zero : new String[] {"+0", "-0"}) {
            for (String infinite : new String[] {"+inf", "-inf"}) {
                is(MULTIPLY, zero, infinite, "not 16");
                is(MULTIPLY, infinite, zero, "not 16");
                for (String z : ALL) {
                    fused(zero, infinite, z, z.equals("not") ? "not 0" : "not 16");
                    fused(infinite, zero, z, z.equals("not") ? "not 0" : "not 16");
                }
            }
        }
        // What is not zero is none, however small.
        is(MULTIPLY, "+1p-110s", "-inf", "-inf 0");
    }

    private static void zeroByZero() {
        for (String x : new String[] {"+0", "-0"}) {
            is(DIVIDE, x, "+0", "not 16");
            is(DIVIDE, x, "-0", "not 16");
        }
    }

    private static void infiniteByInfinite() {
        for (String x : new String[] {"+inf", "-inf"}) {
            is(DIVIDE, x, "+inf", "not 16");
            is(DIVIDE, x, "-inf", "not 16");
        }
    }

    private static void rootBelowZero() {
        for (String size : SIZES) {
            root("-" + size, "not 16");
        }
        root("-1p0", "not 16");
        root("-inf", "not 16");
    }

    private static void remainderOfInfinite() {
        for (String y : ALL) {
            is(REMAINDER, "+inf", y, y.equals("not") ? "not 0" : "not 16");
            is(REMAINDER, "-inf", y, y.equals("not") ? "not 0" : "not 16");
        }
    }

    private static void remainderByZero() {
        for (String x : ALL) {
            is(REMAINDER, x, "+0", x.equals("not") ? "not 0" : "not 16");
            is(REMAINDER, x, "-0", x.equals("not") ? "not 0" : "not 16");
        }
    }

    private static void limitOfSums() {
        List<String> others = finite();
        others.add("+0");
        others.add("-0");
        for (String other : others) {
            is(ADD, "+inf", other, "+inf 0");
            is(ADD, other, "+inf", "+inf 0");
            is(ADD, "-inf", other, "-inf 0");
            is(ADD, other, "-inf", "-inf 0");
            is(SUBTRACT, "+inf", other, "+inf 0");
            is(SUBTRACT, other, "+inf", "-inf 0");
            is(SUBTRACT, "-inf", other, "-inf 0");
            is(SUBTRACT, other, "-inf", "+inf 0");
        }
    }

    private static void limitOfProducts() {
        List<String> others = finite();
        for (String infinite : new String[] {"+inf", "-inf"}) {
            for (String other : others) {
                is(MULTIPLY, infinite, other, times(infinite, other) + "inf 0");
                is(MULTIPLY, other, infinite, times(infinite, other) + "inf 0");
                is(DIVIDE, infinite, other, times(infinite, other) + "inf 0");
            }
            is(MULTIPLY, infinite, "+inf", infinite + " 0");
            is(MULTIPLY, infinite, "-inf", times(infinite, "-") + "inf 0");
            is(DIVIDE, infinite, "+0", infinite + " 0");
            is(DIVIDE, infinite, "-0", times(infinite, "-") + "inf 0");
        }
    }

    private static void limitOfFusedSums() {
        for (String infinite : new String[] {"+inf", "-inf"}) {
            for (String x : finite()) {
                for (String other : new String[] {"+0", "-0", "+3p0", "-2047p90"}) {
                    fused(infinite, x, other, times(infinite, x) + "inf 0");
                    fused(x, infinite, other, times(infinite, x) + "inf 0");
                    fused(x, other, infinite, infinite + " 0");
                    fused(other, x, infinite, infinite + " 0");
                }
            }
        }
    }

    private static void limitOfOthers() {
        root("+inf", "+inf 0");
        for (int mode = 0; mode < 5; mode++) {
            for (String infinite : new String[] {"+inf", "-inf"}) {
                due.same("whole", Trial.madeWhole(11, mode, infinite), infinite + " 0");
                due.same("scale", Trial.scaled(11, mode, infinite, 400), infinite + " 0");
                due.same("scale", Trial.scaled(11, mode, infinite, -400), infinite + " 0");
            }
        }
        is(Trial.LEAST, "+inf", "+3p0", "+3p0 0");
        is(Trial.LEAST, "-3p0", "-inf", "-inf 0");
        is(GREATEST, "+inf", "+3p0", "+inf 0");
        is(GREATEST, "-3p0", "-inf", "-3p0 0");
    }

    /** 3 * 5 and 15 / 5, and what is rounded to 0 or too large. */
    private static void signs() {
        for (String x : new String[] {"+", "-"}) {
            for (String y : new String[] {"+", "-"}) {
                String sign = times(x, y);
                is(MULTIPLY, x + "3p0", y + "5p0", sign + "15p0 0");
                is(DIVIDE, x + "15p0", y + "5p0", sign + "3p0 0");
                due.same("too small", Trial.calculated(11, 1, MULTIPLY, x + "1p-100", y + "1p-100"), sign + "0 3");
                due.same("too small", Trial.calculated(11, 1, DIVIDE, x + "1p-100", y + "1p100"), sign + "0 3");
                due.same("too large", Trial.calculated(11, 4, MULTIPLY, x + "1p100", y + "1p100"), sign + "inf 5");
                due.same("too large", Trial.calculated(11, 4, DIVIDE, x + "1p100", y + "1p-100"), sign + "inf 5");
            }
        }
    }

    private static void signsOfZerosAndInfinities() {
        for (String x : new String[] {"+", "-"}) {
            for (String y : new String[] {"+", "-"}) {
                String sign = times(x, y);
                is(MULTIPLY, x + "0", y + "0", sign + "0 0");
                is(MULTIPLY, x + "0", y + "3p0", sign + "0 0");
                is(MULTIPLY, x + "1p-110s", y + "0", sign + "0 0");
                is(MULTIPLY, x + "inf", y + "inf", sign + "inf 0");
                is(MULTIPLY, x + "inf", y + "3p0", sign + "inf 0");
                is(MULTIPLY, x + "3p0", y + "inf", sign + "inf 0");
                is(DIVIDE, x + "0", y + "3p0", sign + "0 0");
                is(DIVIDE, x + "0", y + "inf", sign + "0 0");
                is(DIVIDE, x + "3p0", y + "inf", sign + "0 0");
                is(DIVIDE, x + "3p0", y + "0", sign + "inf 8");
                is(DIVIDE, x + "inf", y + "3p0", sign + "inf 0");
                is(DIVIDE, x + "inf", y + "0", sign + "inf 0");
            }
        }
    }

    private static void finiteByZero() {
        for (String x : finite()) {
            is(DIVIDE, x, "+0", times(x, "+") + "inf 8");
            is(DIVIDE, x, "-0", times(x, "-") + "inf 8");
        }
    }

    private static void finiteByInfinite() {
        List<String> numbers = finite();
        numbers.add("+0");
        numbers.add("-0");
        for (String x : numbers) {
            is(DIVIDE, x, "+inf", times(x, "+") + "0 0");
            is(DIVIDE, x, "-inf", times(x, "-") + "0 0");
        }
    }
}
