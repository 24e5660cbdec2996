import java.math.BigInteger;

public final class Terms2RoundingTest {
    private static final int ADD = Trial.ADD, SUBTRACT = Trial.SUBTRACT, MULTIPLY = Trial.MULTIPLY, DIVIDE = Trial.DIVIDE;
    // What 8/4 to 15/4 become, without their sign: 2, 2 1/4, 2 1/2, 2 3/4, 3, 3 1/4, 3 1/2, 3 3/4.
    private static final int[] NEAREST_EVEN = {2, 2, 2, 3, 3, 3, 4, 4};
    private static final int[] INWARD = {2, 2, 2, 2, 3, 3, 3, 3};
    private static final int[] OUTWARD = {2, 3, 3, 3, 3, 4, 4, 4};
    private static final int[] NEAREST_AWAY = {2, 2, 3, 3, 3, 3, 4, 4};
    private static final int[] PRECISIONS = {2, 3, 5, 24, 32, 33, 53, 63, 64};
    private static final Due due = new Due();

    public static void main(String[] args) {
        due.sentence("its exponent is the greatest e with 2^e not above |v|", Terms2RoundingTest::exponentOfValue);
        due.sentence("but at least -100", Terms2RoundingTest::leastExponent);
        due.sentence("(v itself if it is one)", Terms2RoundingTest::itself);
        due.sentence("MODE 0 the nearer one, of two equally near ones that with an even number of times",
            () -> mode(0, NEAREST_EVEN, NEAREST_EVEN));
        due.sentence("1 the one nearer to 0", () -> mode(1, INWARD, INWARD));
        due.sentence("2 the upper", () -> mode(2, OUTWARD, INWARD));
        due.sentence("3 the lower", () -> mode(3, INWARD, OUTWARD));
        due.sentence("4 the nearer, of two equally near ones that farther from 0", () -> mode(4, NEAREST_AWAY, NEAREST_AWAY));
        due.sentence("the nearer one: a hair beside a tie", Terms2RoundingTest::besideTies);
        due.sentence("The sign stays, also if it becomes 0", Terms2RoundingTest::signStays);
        due.sentence("If the result is 2^101 or more (without its sign)", Terms2RoundingTest::fromTheLimitOn);
        due.sentence("the result, not the exact value, is 2^101 or more", Terms2RoundingTest::roundedToTheLimit);
        due.sentence("it is infinite instead: modes 0 and 4", () -> tooLarge(new int[] {0, 4}, "inf", "inf"));
        due.sentence("but the greatest finite float in mode 1", () -> tooLarge(new int[] {1}, "", ""));
        due.sentence("in mode 2 if v is below 0", () -> tooLarge(new int[] {2}, "inf", ""));
        due.sentence("and in mode 3 if v is above 0", () -> tooLarge(new int[] {3}, "", "inf"));
        due.end();
    }

    private static void same(String what, int precision, int mode, String got, String want) {
        due.same(what + " at " + precision + " in mode " + mode, got, want);
    }

    private static void load(int precision, int mode, int m, int e, String want) {
        same(m + " * 2^" + e, precision, mode, Trial.loaded(precision, mode, m, e), want);
    }

    private static void calculate(int precision, int mode, int op, String x, String y, String want) {
        same(x + " op " + op + " " + y, precision, mode, Trial.calculated(precision, mode, op, x, y), want);
    }

    private static void fuse(int precision, int mode, String x, String y, String z, String want) {
        same(x + " * " + y + " + " + z, precision, mode, Trial.fused(precision, mode, x, y, z), want);
    }

    private static void scale(int precision, int mode, String x, int k, String want) {
        same(x + " * 2^" + k, precision, mode, Trial.scaled(precision, mode, x, k), want);
    }

    private static void whole(int precision, int mode, String x, String want) {
        same("whole of " + x, precision, mode, Trial.madeWhole(precision, mode, x), want);
    }

    /**
     * 2^(p+1) and 1 more or less: above it the multiples of 4 are near, below it those of 2, and
     * 2^(p+1) - 1 is a tie between an odd number of them and an even one.
     */
    private static void exponentOfValue() {
        for (int precision = 2; precision <= 64; precision++) {
            String power = "1p" + (precision + 1);
            String above = BigInteger.ONE.shiftLeft(precision - 1).add(BigInteger.ONE) + "p2";
            String below = BigInteger.ONE.shiftLeft(precision).subtract(BigInteger.ONE) + "p1";
            String[] more = {power, power, above, power, power};
            String[] less = {power, below, power, below, power};
            for (int mode = 0; mode < 5; mode++) {
                calculate(precision, mode, ADD, "+" + power, "+1p0", "+" + more[mode] + " 1");
                calculate(precision, mode, SUBTRACT, "+" + power, "+1p0", "+" + less[mode] + " 1");
                calculate(precision, mode, ADD, "+1p" + precision, "+1p" + precision, "+" + power + " 0");
            }
        }
    }

    /** Parts of the least float and what they become in each mode; at 2 bits twice that float is 2^-100. */
    private static void leastExponent() {
        int[][] parts = {{1, -2, 0, 0, 1, 0, 0}, {1, -1, 0, 0, 1, 0, 1}, {3, -2, 1, 0, 1, 0, 1}, {3, -1, 2, 1, 2, 1, 2},
            {1, -60, 0, 0, 1, 0, 0}, {5, -2, 1, 1, 2, 1, 1}};
        for (int precision = 2; precision <= 64; precision++) {
            int least = -100 - precision + 1;
            for (int[] part : parts) {
                for (int mode = 0; mode < 5; mode++) {
                    String want = "+" + Trial.leastTimes(precision, part[2 + mode]) + " 3";
                    load(precision, mode, part[0], least + part[1], want);
                }
            }
        }
    }

    private static void itself() {
        for (int precision = 2; precision <= 64; precision++) {
            String[] floats = {Trial.leastTimes(precision, 1), Trial.greatestSubnormal(precision), "1p-100",
                Trial.greatest(precision, -100), "1p0", "3p0", Trial.greatest(precision, 0), "1p100",
                Trial.greatest(precision, 100)};
            for (String x : floats) {
                for (int mode = 0; mode < 5; mode++) {
                    scale(precision, mode, "+" + x, 0, "+" + x + " 0");
                    scale(precision, mode, "-" + x, 0, "-" + x + " 0");
                    calculate(precision, mode, ADD, "-" + x, "+0", "-" + x + " 0");
                    calculate(precision, mode, MULTIPLY, "+" + x, "-1p0", "-" + x + " 0");
                    calculate(precision, mode, DIVIDE, "+" + x, "-1p0", "-" + x + " 0");
                }
            }
        }
    }

    private static void mode(int mode, int[] above, int[] below) {
        for (int quarters = 8; quarters < 16; quarters++) {
            inTheMiddle(mode, "+", 1, quarters, above[quarters - 8]);
            inTheMiddle(mode, "-", -1, quarters, below[quarters - 8]);
            amongSubnormals(mode, "+", 1, quarters, above[quarters - 8]);
            amongSubnormals(mode, "-", -1, quarters, below[quarters - 8]);
        }
    }

    /** At 2 bits the neighbours of these quarters are whole numbers; WHOLE has such neighbours at all precisions. */
    private static void inTheMiddle(int mode, String sign, int factor, int quarters, int count) {
        String flags = quarters % 4 == 0 ? " 0" : " 1";
        String want = sign + (count == 2 ? "1p1" : count == 3 ? "3p0" : "1p2") + flags;
        String units = sign + (quarters < 12 ? "1p1" : "3p0");
        String more = sign + quarter(quarters % 4);
        String less = (factor > 0 ? "-" : "+") + quarter(quarters % 4);
        load(2, mode, factor * quarters, -2, want);
        calculate(2, mode, ADD, units, more, want);
        calculate(2, mode, SUBTRACT, units, less, want);
        fuse(2, mode, units, "+1p0", more, want);
        for (int precision = 5; precision <= 64; precision++) {
            int low = Integer.numberOfTrailingZeros(quarters);
            String x = sign + (quarters >> low) + "p" + (low - 2);
            whole(precision, mode, x, want);
        }
    }

    private static String quarter(int count) {
        return count == 0 ? "0" : count == 2 ? "1p-1" : count + "p-2";
    }

    /** Quarters of the least float, whose neighbours are its multiples. */
    private static void amongSubnormals(int mode, String sign, int factor, int quarters, int count) {
        String flags = quarters % 4 == 0 ? " 0" : " 3";
        for (int precision = 5; precision <= 64; precision++) {
            String want = sign + Trial.leastTimes(precision, count) + flags;
            String x = sign + Trial.leastTimes(precision, quarters);
            load(precision, mode, factor * quarters, -100 - precision + 1 - 2, want);
            scale(precision, mode, x, -2, want);
            calculate(precision, mode, MULTIPLY, x, "+1p-2", want);
            calculate(precision, mode, DIVIDE, x, "+1p2", want);
            fuse(precision, mode, x, "+1p-2", sign + "0", want);
        }
    }

    /** Modes 0 and 4 differ at ties alone. */
    private static void besideTies() {
        // 1 1/2 * 3 is 4 1/2, and 2 1/2 * 3 is 7 1/2, which are ties at 3 bits.
        ties(3, "3p-1", "3p0", "1p2", "5p0", "1p2", "5p0");
        ties(3, "5p-1", "3p0", "7p0", "1p3", "1p3", "1p3");
        // (2^32 + 1)^2 is a tie at 64 bits, and the last bit kept of the lower one is even.
        String lower = "2147483649p33";
        String upper = "9223372041149743105p1";
        ties(64, "4294967297p0", "4294967297p0", lower, upper, lower, upper);
        // 2^63 + 1 with 1/2 and 2^-40, 1/2, and 1/2 less 2^-40; then 2^63; then about half of the least float.
        for (int mode = 0; mode < 5; mode += 4) {
            String odd = "+9223372036854775809p0";
            String next = "+4611686018427387905p1 1";
            calculate(64, mode, ADD, odd, "+549755813889p-40", next);
            calculate(64, mode, ADD, odd, "+1p-1", next);
            calculate(64, mode, ADD, odd, "+549755813887p-40", odd + " 1");
            calculate(64, mode, ADD, "+1p63", "+549755813889p-40", odd + " 1");
            calculate(64, mode, ADD, "+1p63", "+549755813887p-40", "+1p63 1");
            calculate(64, mode, DIVIDE, "+1p-163s", "+18446744073709551615p-63", "+1p-163s 3");
            calculate(64, mode, DIVIDE, "+1p-163s", "+9223372036854775809p-62", "+0 3");
        }
    }

    /** A product that is a tie, alone and with the least float, which is no part of any of these, more or less. */
    private static void ties(int precision, String x, String y, String lower, String upper, String even, String away) {
        String hair = Trial.leastTimes(precision, 1);
        fuse(precision, 0, "+" + x, "+" + y, "+0", "+" + even + " 1");
        fuse(precision, 4, "+" + x, "+" + y, "+0", "+" + away + " 1");
        for (int mode = 0; mode < 5; mode += 4) {
            fuse(precision, mode, "+" + x, "+" + y, "+" + hair, "+" + upper + " 1");
            fuse(precision, mode, "+" + x, "+" + y, "-" + hair, "+" + lower + " 1");
            fuse(precision, mode, "-" + x, "+" + y, "-" + hair, "-" + upper + " 1");
            fuse(precision, mode, "+" + x, "-" + y, "+" + hair, "-" + lower + " 1");
        }
    }

    /** Less than half of the least float becomes 0 in all modes but one. */
    private static void signStays() {
        for (int precision : PRECISIONS) {
            String least = Trial.leastTimes(precision, 1);
            for (int mode = 0; mode < 5; mode++) {
                String plus = mode == 2 ? "+" + least + " 3" : "+0 3";
                String minus = mode == 3 ? "-" + least + " 3" : "-0 3";
                load(precision, mode, 1, -200, plus);
                load(precision, mode, -1, -200, minus);
                scale(precision, mode, "+" + least, -2, plus);
                scale(precision, mode, "-" + least, -2, minus);
                calculate(precision, mode, MULTIPLY, "-" + least, "-1p-3", plus);
                calculate(precision, mode, MULTIPLY, "+" + least, "-1p-3", minus);
                calculate(precision, mode, DIVIDE, "-" + least, "-3p0", plus);
                calculate(precision, mode, DIVIDE, "+" + least, "-3p0", minus);
                fuse(precision, mode, "+" + least, "+1p-3", "-0", plus);
                fuse(precision, mode, "-" + least, "+1p-3", "+0", minus);
                whole(precision, mode, "+1p-2", mode == 2 ? "+1p0 1" : "+0 1");
                whole(precision, mode, "-1p-2", mode == 3 ? "-1p0 1" : "-0 1");
            }
        }
    }

    /** Twice 2^100 is too large, twice the greatest float below it is not. */
    private static void fromTheLimitOn() {
        for (int precision = 2; precision <= 64; precision++) {
            String greatest = Trial.greatest(precision, 100);
            String half = Trial.greatest(precision, 99);
            String plus = "+" + greatest + " 0";
            String minus = "-" + greatest + " 0";
            for (int mode = 0; mode < 5; mode++) {
                scale(precision, mode, "+" + half, 1, plus);
                scale(precision, mode, "-" + half, 1, minus);
                calculate(precision, mode, ADD, "+" + half, "+" + half, plus);
                calculate(precision, mode, MULTIPLY, "-" + half, "+1p1", minus);
            }
            load(precision, 0, 1, 101, "+inf 5");
            load(precision, 0, -1, 101, "-inf 5");
        }
    }

    /** The greatest float and a half or a quarter of its last bit. */
    private static void roundedToTheLimit() {
        for (int precision = 2; precision <= 64; precision++) {
            String greatest = Trial.greatest(precision, 100);
            String half = "1p" + (100 - precision);
            String quarter = "1p" + (99 - precision);
            String[] plusHalf = {"inf 5", greatest + " 1", "inf 5", greatest + " 1", "inf 5"};
            String[] minusHalf = {"inf 5", greatest + " 1", greatest + " 1", "inf 5", "inf 5"};
            String[] plusQuarter = {greatest + " 1", greatest + " 1", "inf 5", greatest + " 1", greatest + " 1"};
            String[] minusQuarter = {greatest + " 1", greatest + " 1", greatest + " 1", "inf 5", greatest + " 1"};
            for (int mode = 0; mode < 5; mode++) {
                calculate(precision, mode, ADD, "+" + greatest, "+" + half, "+" + plusHalf[mode]);
                calculate(precision, mode, ADD, "-" + greatest, "-" + half, "-" + minusHalf[mode]);
                calculate(precision, mode, SUBTRACT, "+" + greatest, "-" + quarter, "+" + plusQuarter[mode]);
                fuse(precision, mode, "-" + greatest, "+1p0", "-" + quarter, "-" + minusQuarter[mode]);
            }
        }
    }

    /** Each operation that can come there, far beyond and at the limit; "" stands for the greatest float. */
    private static void tooLarge(int[] modes, String above, String below) {
        for (int precision : PRECISIONS) {
            String greatest = Trial.greatest(precision, 100);
            String plus = "+" + (above.isEmpty() ? greatest : above) + " 5";
            String minus = "-" + (below.isEmpty() ? greatest : below) + " 5";
            for (int mode : modes) {
                load(precision, mode, 1, 101, plus);
                load(precision, mode, -1, 101, minus);
                load(precision, mode, Integer.MAX_VALUE, 300, plus);
                load(precision, mode, Integer.MIN_VALUE, 300, minus);
                scale(precision, mode, "+1p100", 1, plus);
                scale(precision, mode, "-" + greatest, 400, minus);
                calculate(precision, mode, ADD, "+1p100", "+1p100", plus);
                calculate(precision, mode, ADD, "-" + greatest, "-" + greatest, minus);
                calculate(precision, mode, SUBTRACT, "+1p100", "-1p100", plus);
                calculate(precision, mode, SUBTRACT, "-1p100", "+" + greatest, minus);
                calculate(precision, mode, MULTIPLY, "-1p100", "-1p1", plus);
                calculate(precision, mode, MULTIPLY, "+" + greatest, "-" + greatest, minus);
                calculate(precision, mode, DIVIDE, "-1p100", "-1p-1", plus);
                calculate(precision, mode, DIVIDE, "+" + greatest, "-" + Trial.leastTimes(precision, 1), minus);
                fuse(precision, mode, "+1p50", "+1p50", "+1p100", plus);
                fuse(precision, mode, "-1p100", "+1p100", "+" + greatest, minus);
            }
        }
    }
}
