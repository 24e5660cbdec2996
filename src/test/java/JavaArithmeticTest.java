/**
 * The program against Java's own float and double, which round to the nearest, ties to even, as mode 0
 * does. Their exponents reach farther, so each end of the range is looked at with their values shifted
 * until both ranges end at the same place. What no one of this project wrote is the judge here.
 */
public final class JavaArithmeticTest {
    private static final int ROUNDS = 8000;
    private static final int ADD = 0, SUBTRACT = 1, MULTIPLY = 2, DIVIDE = 3, REMAINDER = 4, LEAST = 5;

    /** A float is told as the double of the same value. */
    private interface Arithmetic {
        double calculate(int op, double x, double y);

        double fuse(double x, double y, double z);

        double root(double x);

        double step(double x, boolean up);

        double scale(double x, int k);
    }

    private static final class Doubles implements Arithmetic {
        public double calculate(int op, double x, double y) {
            switch (op) {
                case ADD:
                    return x + y;
                case SUBTRACT:
                    return x - y;
                case MULTIPLY:
                    return x * y;
                case DIVIDE:
                    return x / y;
                case REMAINDER:
                    return Math.IEEEremainder(x, y);
                case LEAST:
                    return Math.min(x, y);
                default:
                    return Math.max(x, y);
            }
        }

        public double fuse(double x, double y, double z) {
            return Math.fma(x, y, z);
        }

        public double root(double x) {
            return Math.sqrt(x);
        }

        public double step(double x, boolean up) {
            return up ? Math.nextUp(x) : Math.nextDown(x);
        }

        public double scale(double x, int k) {
            return Math.scalb(x, k);
        }
    }

    private static final class Floats implements Arithmetic {
        public double calculate(int op, double x, double y) {
            switch (op) {
                case ADD:
                    return (float) x + (float) y;
                case SUBTRACT:
                    return (float) x - (float) y;
                case MULTIPLY:
                    return (float) x * (float) y;
                case DIVIDE:
                    return (float) x / (float) y;
                case REMAINDER:
                    return Math.IEEEremainder(x, y);
                case LEAST:
                    return Math.min((float) x, (float) y);
                default:
                    return Math.max((float) x, (float) y);
            }
        }

        public double fuse(double x, double y, double z) {
            return Math.fma((float) x, (float) y, (float) z);
        }

        public double root(double x) {
            return (float) Math.sqrt(x);
        }

        public double step(double x, boolean up) {
            return up ? Math.nextUp((float) x) : Math.nextDown((float) x);
        }

        public double scale(double x, int k) {
            return Math.scalb((float) x, k);
        }
    }

    private static final Due due = new Due();

    private final int precision;
    private final Arithmetic java;
    /** Java's value is the program's times 2^shift. */
    private final int shift;
    private final int leastExponent, mostExponent;
    private long state = 88172645463325252L;

    private JavaArithmeticTest(int precision, Arithmetic java, int shift, int leastExponent, int mostExponent) {
        this.precision = precision;
        this.java = java;
        this.shift = shift;
        this.leastExponent = leastExponent;
        this.mostExponent = mostExponent;
    }

    public static void main(String[] args) {
        due.sentence("correctly rounded operations: as those of float", () -> range(24, new Floats(), 0, -30, 30));
        due.sentence("correctly rounded operations: as those of double", () -> range(53, new Doubles(), 0, -20, 20));
        due.sentence("subnormal numbers: as those of float",
            () -> range(24, new Floats(), Float.MIN_EXPONENT + 100, -124, -70));
        due.sentence("subnormal numbers: as those of double",
            () -> range(53, new Doubles(), Double.MIN_EXPONENT + 100, -153, -50));
        due.sentence("infinities: as those of float", () -> range(24, new Floats(), Float.MAX_EXPONENT - 100, 75, 100));
        due.sentence("infinities: as those of double", () -> range(53, new Doubles(), Double.MAX_EXPONENT - 100, 45, 100));
        due.end();
    }

    private static void range(int precision, Arithmetic java, int shift, int least, int most) {
        JavaArithmeticTest test = new JavaArithmeticTest(precision, java, shift, least, most);
        for (int i = 0; i < ROUNDS; i++) {
            test.round();
        }
    }

    private long next() {
        state ^= state << 13;
        state ^= state >>> 7;
        state ^= state << 17;
        return state * 0x2545F4914F6CDD1DL;
    }

    private int below(int bound) {
        return (int) Long.remainderUnsigned(next() >>> 11, bound);
    }

    /** With the top bit set. Few bits make ties likely, all of them carries. */
    private long whole() {
        long top = 1L << precision - 1;
        long all = top | top - 1;
        switch (below(5)) {
            case 0:
                return top | all >>> below(precision);
            case 1:
                return top | 1L << below(precision) | 1L << below(precision);
            case 2:
                return all << below(precision) & all;
            case 3:
                return all - below(4);
            default:
                return top | next() & all;
        }
    }

    /** One with an exponent from least to most, its bits cut off below the least subnormal one of the program. */
    private double any(int least, int most) {
        if (below(20) == 0) {
            double[] others = {0.0, 1 / 0.0, 0.0 / 0.0};
            return others[below(3)] * (below(2) == 0 ? 1 : -1);
        }
        long m = whole();
        int unit = least + below(most - least + 1) - precision + 1;
        int missing = Math.max(0, -100 - precision + 1 - unit);
        m = missing < 64 ? m >>> missing << missing : 0;
        return Math.scalb((double) (below(2) == 0 ? m : -m), unit);
    }

    private void put(LimbFloats floats, int into, double value) {
        boolean negative = Double.doubleToRawLongBits(value) < 0;
        if (value == 0 || Double.isInfinite(value) || Double.isNaN(value)) {
            floats.special(into, value == 0 ? 0 : Double.isInfinite(value) ? 1 : 2, negative);
            return;
        }
        int unit = Math.getExponent(value) - 52;
        long m = (long) Math.scalb(value, -unit);
        floats.load(into, (int) (m / (1 << 27)), unit + 27);
        floats.load(7, (int) (m % (1 << 27)), unit);
        floats.calculate(ADD, into, 7, into);
    }

    private double got(LimbFloats floats, int slot, int shifted) {
        double sign = floats.negative(slot) ? -1 : 1;
        switch (floats.kind(slot)) {
            case LimbFloats.ZERO:
                return 0.0 * sign;
            case LimbFloats.INFINITE:
                return sign / 0.0;
            case LimbFloats.NOT:
                return 0.0 / 0.0;
            default:
                long m = 0;
                for (int k = 3; k >= 0; k--) {
                    m = m << 16 | floats.bits(slot, k);
                }
                return Math.scalb(sign * m, floats.exponent(slot) - precision + 1 + shifted);
        }
    }

    private static long told(double value) {
        return Double.doubleToLongBits(value);
    }

    private void look(String what, double got, double want) {
        due.same(what + ": " + got + " for " + want, told(got), told(want));
    }

    private void round() {
        double x = any(leastExponent, mostExponent);
        double z = any(leastExponent, mostExponent);
        // A factor or a divisor is not shifted, so that the result is shifted as x is.
        double y = any(-12, 12);
        LimbFloats floats = new LimbFloats(precision);
        put(floats, 0, x);
        put(floats, 1, z);
        put(floats, 2, y);
        due.same("flags of floats that are put", floats.flags(), 0);
        double shiftedX = Math.scalb(x, shift);
        double shiftedZ = Math.scalb(z, shift);
        String operands = " of " + x + ", " + z + ", " + y + " at " + precision;
        for (int op = 0; op < 7; op++) {
            boolean factor = op == MULTIPLY || op == DIVIDE;
            floats.calculate(op, 0, factor ? 2 : 1, 3);
            double want = java.calculate(op, shiftedX, factor ? y : shiftedZ);
            look("calculate " + op + operands, got(floats, 3, shift), want);
        }
        floats.fuse(0, 2, 1, 3);
        look("fuse" + operands, got(floats, 3, shift), java.fuse(shiftedX, y, shiftedZ));
        int k = below(60) - 30;
        floats.scale(0, k, 3);
        look("scale by " + k + operands, got(floats, 3, shift), java.scale(shiftedX, k));
        if (stepsAlike(x)) {
            boolean up = below(2) == 0;
            floats.step(0, up, 3);
            look("step" + operands, got(floats, 3, shift), java.step(shiftedX, up));
        }
        int order = x < z ? -1 : x == z ? 0 : x > z ? 1 : 2;
        due.same("compare" + operands, floats.compare(0, 1), order);
        unshifted(floats, x, operands);
    }

    /** A step from 0 or from what is infinite leads to an end of the range, where only one is shifted to. */
    private boolean stepsAlike(double x) {
        return x == 0 ? shift < 0 : !Double.isInfinite(x) || shift > 0;
    }

    /** These don't keep a shift, and their results don't come near the ends of the range. */
    private void unshifted(LimbFloats floats, double x, String operands) {
        floats.root(0, 3);
        look("root" + operands, got(floats, 3, 0), java.root(x));
        floats.whole(0, 3);
        look("whole" + operands, got(floats, 3, 0), Math.rint(x));
        due.same("integer" + operands, floats.integer(0), (int) x);
    }
}
