import java.math.BigInteger;

/**
 * An object whose floats are told as texts: "+3p-2" is 3 * 2^-2 at every precision, with an "s"
 * behind it if it is subnormal; "+0", "-inf" and "not" are the others.
 */
final class Trial {
    static final int ADD = 0, SUBTRACT = 1, MULTIPLY = 2, DIVIDE = 3, REMAINDER = 4, LEAST = 5, GREATEST = 6;

    final LimbFloats floats;
    final int precision;

    Trial(int precision) {
        floats = new LimbFloats(precision);
        this.precision = Math.max(2, Math.min(64, precision));
    }

    /** A "?" follows where the calls contradict each other. */
    String show(int slot) {
        String sign = floats.negative(slot) ? "-" : "+";
        int exponent = floats.exponent(slot);
        BigInteger whole = whole(slot);
        switch (floats.kind(slot)) {
            case LimbFloats.SUBNORMAL:
                return sign + finite(whole, exponent) + (exponent == -100 && whole.bitLength() < precision ? "s" : "s?");
            case LimbFloats.NORMAL:
                return sign + finite(whole, exponent) + (whole.bitLength() == precision ? "" : "?");
            case LimbFloats.ZERO:
                return sign + "0" + unlessEmpty(whole, exponent);
            case LimbFloats.INFINITE:
                return sign + "inf" + unlessEmpty(whole, exponent);
            case LimbFloats.NOT:
                return "not" + (floats.negative(slot) ? "?" : "") + unlessEmpty(whole, exponent);
            default:
                return "no kind";
        }
    }

    String showAll() {
        StringBuilder all = new StringBuilder();
        for (int slot = 0; slot < 8; slot++) {
            all.append(show(slot)).append(slot < 7 ? " " : "");
        }
        return all.toString();
    }

    BigInteger whole(int slot) {
        BigInteger whole = BigInteger.ZERO;
        for (int k = 3; k >= 0; k--) {
            whole = whole.shiftLeft(16).add(BigInteger.valueOf(floats.bits(slot, k)));
        }
        return whole;
    }

    private String finite(BigInteger whole, int exponent) {
        int low = Math.max(0, whole.getLowestSetBit());
        return whole.shiftRight(low) + "p" + (exponent - precision + 1 + low);
    }

    private static String unlessEmpty(BigInteger whole, int exponent) {
        return whole.signum() == 0 && exponent == -1000 ? "" : "?";
    }

    /** A slot becomes what the text tells, which must be a float; slot 7 is spare for long ones. */
    void put(int into, String text) {
        boolean negative = text.startsWith("-");
        switch (text) {
            case "+0", "-0":
                floats.special(into, 0, negative);
                break;
            case "+inf", "-inf":
                floats.special(into, 1, negative);
                break;
            case "not":
                floats.special(into, 2, negative);
                break;
            default:
                String[] parts = text.substring(1).replace("s", "").split("p");
                putFinite(into, negative, new BigInteger(parts[0]), Integer.parseInt(parts[1]));
        }
        if (floats.flags() != 0) {
            throw new IllegalArgumentException(text + " is no float of precision " + precision);
        }
    }

    private void putFinite(int into, boolean negative, BigInteger whole, int unit) {
        floats.special(into, 0, negative);
        for (int i = 2; i >= 0; i--) {
            int part = whole.shiftRight(30 * i).intValue() & 0x3FFFFFFF;
            floats.load(7, negative ? -part : part, unit + 30 * i);
            floats.calculate(ADD, into, 7, into);
        }
    }

    private String resultOf(int slot) {
        String shown = show(slot);
        return shown + " " + floats.flags();
    }

    static Trial with(int precision, int mode, String... values) {
        Trial trial = new Trial(precision);
        for (int i = 0; i < values.length; i++) {
            trial.put(i, values[i]);
        }
        trial.floats.mode(mode);
        return trial;
    }

    /** A call on operands in slots 0, 1 and 2, with its result in slot 6. */
    interface Act {
        boolean on(LimbFloats floats);
    }

    // Each of these answers the result and the flags, as in "+inf 5".

    static String done(int precision, int mode, Act act, String... operands) {
        Trial trial = with(precision, mode, operands);
        boolean accepted = act.on(trial.floats);
        return trial.resultOf(6) + (accepted ? "" : " refused");
    }

    static String loaded(int precision, int mode, int m, int e) {
        return done(precision, mode, f -> f.load(6, m, e));
    }

    static String calculated(int precision, int mode, int op, String x, String y) {
        return done(precision, mode, f -> f.calculate(op, 0, 1, 6), x, y);
    }

    static String fused(int precision, int mode, String x, String y, String z) {
        return done(precision, mode, f -> f.fuse(0, 1, 2, 6), x, y, z);
    }

    static String rooted(int precision, int mode, String x) {
        return done(precision, mode, f -> f.root(0, 6), x);
    }

    static String madeWhole(int precision, int mode, String x) {
        return done(precision, mode, f -> f.whole(0, 6), x);
    }

    static String stepped(int precision, int mode, String x, boolean up) {
        return done(precision, mode, f -> f.step(0, up, 6), x);
    }

    static String scaled(int precision, int mode, String x, int k) {
        return done(precision, mode, f -> f.scale(0, k, 6), x);
    }

    static int compared(int precision, String x, String y) {
        return with(precision, 0, x, y).floats.compare(0, 1);
    }

    // Floats of a precision, as texts without their sign.

    static String leastTimes(int precision, int count) {
        if (count == 0) {
            return "0";
        }
        int low = Integer.numberOfTrailingZeros(count);
        boolean subnormal = BigInteger.valueOf(count).bitLength() < precision;
        return (count >> low) + "p" + (-100 - precision + 1 + low) + (subnormal ? "s" : "");
    }

    /** Of those with this exponent. */
    static String greatest(int precision, int exponent) {
        return BigInteger.ONE.shiftLeft(precision).subtract(BigInteger.ONE) + "p" + (exponent - precision + 1);
    }

    static String greatestSubnormal(int precision) {
        return BigInteger.ONE.shiftLeft(precision - 1).subtract(BigInteger.ONE) + "p" + (-100 - precision + 1) + "s";
    }

    /** An object with something of every kind in its slots, a mode, and flags that can come together. */
    static Trial ofEveryKind(int precision, int mode, int flags) {
        Trial trial = with(precision, 0, "+3p0", "-3p-3", "+0", "-0", "+inf", "-inf", "not");
        trial.raise(flags);
        trial.floats.special(7, 0, true);
        trial.floats.step(7, false, 7);
        trial.floats.mode(mode);
        return trial;
    }

    /** Needs the slots of {@link #ofEveryKind}; slot 7 is lost. */
    private void raise(int flags) {
        if ((flags & 1) != 0) {
            floats.root(0, 7);
        }
        if ((flags & 2) != 0) {
            floats.load(7, 1, -300);
        }
        if ((flags & 4) != 0) {
            floats.load(7, 1, 300);
        }
        if ((flags & 8) != 0) {
            floats.calculate(DIVIDE, 0, 2, 7);
        }
        if ((flags & 16) != 0) {
            floats.calculate(ADD, 4, 5, 7);
        }
    }

    /** All that shows of the slots: each of them, each as an int, and each compared with itself and others. */
    String showEverything() {
        StringBuilder all = new StringBuilder(showAll());
        for (int slot = 0; slot < 8; slot++) {
            all.append(" ").append(floats.integer(slot));
            for (int apart = 0; apart < 3; apart++) {
                all.append(",").append(floats.compare(slot, (slot + apart) % 8));
            }
        }
        return all.toString();
    }
}
