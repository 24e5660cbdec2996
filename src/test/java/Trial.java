import java.math.BigInteger;

/** A new object and the precision it has, so that what its slots hold can be told as a number. */
final class Trial {
    static final int INEXACT = 1, UNDERFLOW = 2, OVERFLOW = 4, DIVISION = 8, INVALID = 16;
    static final int ADD = 0, SUBTRACT = 1, MULTIPLY = 2, DIVIDE = 3, REMAINDER = 4, LEAST = 5, GREATEST = 6;

    final LimbFloats floats;
    final int precision;

    Trial(int precision) {
        floats = new LimbFloats(precision);
        this.precision = Math.max(2, Math.min(64, precision));
    }

    /**
     * "+3p-2" for 3 * 2^-2 at every precision, with an "s" behind it if it is subnormal; "+0", "-inf",
     * "not". A "?" follows where the calls contradict each other.
     */
    String show(int slot) {
        String sign = floats.negative(slot) ? "-" : "+";
        int exponent = floats.exponent(slot);
        BigInteger whole = whole(slot);
        switch (floats.kind(slot)) {
            case LimbFloats.SUBNORMAL:
                return sign + finite(whole, exponent) + (exponent == -100 && whole.bitLength() < precision ? "s" : "s?");
            case LimbFloats.NORMAL:
                return sign + finite(whole, exponent) + (whole.bitLength() == precision ? "" : "?");
            case LimbFloats.ZERO:
                return sign + "0" + unlessEmpty(whole, exponent);
            case LimbFloats.INFINITE:
                return sign + "inf" + unlessEmpty(whole, exponent);
            case LimbFloats.NOT:
                return "not" + (floats.negative(slot) ? "?" : "") + unlessEmpty(whole, exponent);
            default:
                return "no kind";
        }
    }

    BigInteger whole(int slot) {
        BigInteger whole = BigInteger.ZERO;
        for (int k = 3; k >= 0; k--) {
            whole = whole.shiftLeft(16).add(BigInteger.valueOf(floats.bits(slot, k)));
        }
        return whole;
    }

    private String finite(BigInteger whole, int exponent) {
        int low = Math.max(0, whole.getLowestSetBit());
        return whole.shiftRight(low) + "p" + (exponent - precision + 1 + low);
    }

    private static String unlessEmpty(BigInteger whole, int exponent) {
        return whole.signum() == 0 && exponent == -1000 ? "" : "?";
    }

    /** Any float of up to 64 bits: sign * whole * 2^unit, through slots into and spare. Takes the flags. */
    void set(int into, int spare, boolean negative, long whole, int unit) {
        int sign = negative ? -1 : 1;
        int low = (int) (whole & 0x3FFFFFFF);
        int middle = (int) (whole >>> 30 & 0x3FFFFFFF);
        int high = (int) (whole >>> 60);
        floats.load(into, sign * high, unit + 60);
        floats.load(spare, sign * middle, unit + 30);
        floats.calculate(ADD, into, spare, into);
        floats.load(spare, sign * low, unit);
        floats.calculate(ADD, into, spare, into);
        floats.flags();
    }
}
