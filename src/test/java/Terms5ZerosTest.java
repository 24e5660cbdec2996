/** The zeros that sums, differences, fused sums and roots may be. */
public final class Terms5ZerosTest {
    private static final int ADD = Trial.ADD, SUBTRACT = Trial.SUBTRACT;
    private static final Due due = new Due();

    public static void main(String[] args) {
        due.sentence("A sum that is exactly 0 is +0, but -0 in mode 3", Terms5ZerosTest::sums);
        due.sentence("A difference that is exactly 0 is +0, but -0 in mode 3", Terms5ZerosTest::differences);
        due.sentence("A fused sum that is exactly 0 is +0, but -0 in mode 3", Terms5ZerosTest::fusedSums);
        due.sentence("exactly 0: not one that is rounded to 0", Terms5ZerosTest::roundedToZero);
        due.sentence("of two zeros of the same sign it is that zero", Terms5ZerosTest::sameZeros);
        due.sentence("of two zeros of opposite signs it is +0, but -0 in mode 3", Terms5ZerosTest::oppositeZeros);
        due.sentence("(for the difference: after y's sign is changed", Terms5ZerosTest::changedSign);
        due.sentence("for the fused sum x y and z)", Terms5ZerosTest::fusedZeros);
        due.sentence("The root of a zero is that zero", Terms5ZerosTest::roots);
        due.end();
    }

    private static String[] magnitudes(int precision) {
        return new String[] {Trial.leastTimes(precision, 1), Trial.greatestSubnormal(precision), "1p-100", "3p0",
            Trial.greatest(precision, 0), Trial.greatest(precision, 100)};
    }

    private static String zeroOf(int mode) {
        return mode == 3 ? "-0 0" : "+0 0";
    }

    private static void is(int precision, int mode, int op, String x, String y, String want) {
        due.same(x + " op " + op + " " + y + " at " + precision + " in mode " + mode,
            Trial.calculated(precision, mode, op, x, y), want);
    }

    private static void isFused(int precision, int mode, String x, String y, String z, String want) {
        due.same(x + " * " + y + " + " + z + " at " + precision + " in mode " + mode,
            Trial.fused(precision, mode, x, y, z), want);
    }

    private static void sums() {
        for (int precision = 2; precision <= 64; precision++) {
            for (String size : magnitudes(precision)) {
                for (int mode = 0; mode < 5; mode++) {
                    is(precision, mode, ADD, "+" + size, "-" + size, zeroOf(mode));
                    is(precision, mode, ADD, "-" + size, "+" + size, zeroOf(mode));
                }
            }
        }
    }

    private static void differences() {
        for (int precision = 2; precision <= 64; precision++) {
            for (String size : magnitudes(precision)) {
                for (int mode = 0; mode < 5; mode++) {
                    is(precision, mode, SUBTRACT, "+" + size, "+" + size, zeroOf(mode));
                    is(precision, mode, SUBTRACT, "-" + size, "-" + size, zeroOf(mode));
                }
            }
        }
    }

    private static void fusedSums() {
        for (int precision = 2; precision <= 64; precision++) {
            for (String size : magnitudes(precision)) {
                for (int mode = 0; mode < 5; mode++) {
                    isFused(precision, mode, "+" + size, "+1p0", "-" + size, zeroOf(mode));
                    isFused(precision, mode, "-1p0", "+" + size, "+" + size, zeroOf(mode));
                    isFused(precision, mode, "-1p0", "-" + size, "-" + size, zeroOf(mode));
                }
            }
        }
        for (int mode = 0; mode < 5; mode++) {
            isFused(11, mode, "+3p0", "+5p0", "-15p0", zeroOf(mode));
            isFused(11, mode, "+3p0", "-5p0", "+15p0", zeroOf(mode));
            isFused(64, mode, "+1p-81", "+1p-82", "-1p-163s", zeroOf(mode));
        }
    }

    /** The product of two small floats with -0 or +0, of which it is no zero: its own sign stays. */
    private static void roundedToZero() {
        for (int mode = 0; mode < 5; mode++) {
            String plus = mode == 2 ? "+1p-104s 3" : "+0 3";
            String minus = mode == 3 ? "-1p-104s 3" : "-0 3";
            for (String zero : new String[] {"+0", "-0"}) {
                isFused(5, mode, "+1p-104s", "+1p-104s", zero, plus);
                isFused(5, mode, "-1p-104s", "+1p-104s", zero, minus);
                isFused(5, mode, "-1p-104s", "-1p-104s", zero, plus);
            }
        }
    }

    private static void sameZeros() {
        for (int mode = 0; mode < 5; mode++) {
            is(2, mode, ADD, "+0", "+0", "+0 0");
            is(2, mode, ADD, "-0", "-0", "-0 0");
            is(64, mode, ADD, "+0", "+0", "+0 0");
            is(64, mode, ADD, "-0", "-0", "-0 0");
        }
    }

    private static void oppositeZeros() {
        for (int mode = 0; mode < 5; mode++) {
            is(2, mode, ADD, "+0", "-0", zeroOf(mode));
            is(64, mode, ADD, "-0", "+0", zeroOf(mode));
        }
    }

    private static void changedSign() {
        for (int mode = 0; mode < 5; mode++) {
            is(24, mode, SUBTRACT, "+0", "-0", "+0 0");
            is(24, mode, SUBTRACT, "-0", "+0", "-0 0");
            is(24, mode, SUBTRACT, "+0", "+0", zeroOf(mode));
            is(24, mode, SUBTRACT, "-0", "-0", zeroOf(mode));
            is(24, mode, SUBTRACT, "+0", "-3p0", "+3p0 0");
            is(24, mode, SUBTRACT, "-0", "+3p0", "-3p0 0");
            is(24, mode, ADD, "-0", "-3p0", "-3p0 0");
        }
    }

    /** The product's sign is that of its factors multiplied, whichever of them is zero. */
    private static void fusedZeros() {
        for (int mode = 0; mode < 5; mode++) {
            for (String other : new String[] {"0", "1p-123s", "3p0", "1p100"}) {
                isFused(24, mode, "+0", "+" + other, "+0", "+0 0");
                isFused(24, mode, "-" + other, "-0", "+0", "+0 0");
                isFused(24, mode, "-0", "+" + other, "-0", "-0 0");
                isFused(24, mode, "-" + other, "+0", "-0", "-0 0");
                isFused(24, mode, "+0", "+" + other, "-0", zeroOf(mode));
                isFused(24, mode, "-0", "-" + other, "-0", zeroOf(mode));
                isFused(24, mode, "+" + other, "-0", "+0", zeroOf(mode));
                isFused(24, mode, "-" + other, "+0", "+0", zeroOf(mode));
                isFused(24, mode, "-0", "+" + other, "+3p0", "+3p0 0");
                isFused(24, mode, "+" + other, "+0", "-3p0", "-3p0 0");
            }
        }
    }

    private static void roots() {
        for (int precision = 2; precision <= 64; precision++) {
            for (int mode = 0; mode < 5; mode++) {
                due.same("root of +0", Trial.rooted(precision, mode, "+0"), "+0 0");
                due.same("root of -0", Trial.rooted(precision, mode, "-0"), "-0 0");
            }
        }
    }
}
