import java.math.BigInteger;

/**
 * The document's floats again, over fractions of any size: an exact value is found first, as a
 * fraction, and rounded by the words of ROUNDING. It shares no code with the program.
 */
final class Model {
    static final int ZERO = 0, SUBNORMAL = 1, NORMAL = 2, INFINITE = 3, NOT = 4;

    /** A float's value: a kind and a sign, and for a finite one M and E. */
    static final class Value {
        final int kind;
        final boolean negative;
        final BigInteger whole;
        final int exponent;

        Value(int kind, boolean negative, BigInteger whole, int exponent) {
            this.kind = kind;
            this.negative = negative;
            this.whole = whole;
            this.exponent = exponent;
        }

        static Value plain(int kind, boolean negative) {
            return new Value(kind, negative, BigInteger.ZERO, -1000);
        }

        boolean finite() {
            return kind == SUBNORMAL || kind == NORMAL;
        }
    }

    /** An exact number n / d with d above 0. */
    static final class Fraction {
        final BigInteger n;
        final BigInteger d;

        Fraction(BigInteger n, BigInteger d) {
            this.n = d.signum() < 0 ? n.negate() : n;
            this.d = d.abs();
        }

        static Fraction of(BigInteger m, int unit) {
            return unit >= 0 ? new Fraction(m.shiftLeft(unit), BigInteger.ONE)
                : new Fraction(m, BigInteger.ONE.shiftLeft(-unit));
        }

        Fraction plus(Fraction o) {
            return new Fraction(n.multiply(o.d).add(o.n.multiply(d)), d.multiply(o.d));
        }

        Fraction minus(Fraction o) {
            return plus(new Fraction(o.n.negate(), o.d));
        }

        Fraction times(Fraction o) {
            return new Fraction(n.multiply(o.n), d.multiply(o.d));
        }

        Fraction over(Fraction o) {
            return new Fraction(n.multiply(o.d), d.multiply(o.n));
        }

        Fraction abs() {
            return new Fraction(n.abs(), d);
        }

        int compareTo(Fraction o) {
            return n.multiply(o.d).compareTo(o.n.multiply(d));
        }

        BigInteger floor() {
            BigInteger[] both = n.divideAndRemainder(d);
            return both[1].signum() < 0 ? both[0].subtract(BigInteger.ONE) : both[0];
        }
    }

    private static final Fraction HALF = Fraction.of(BigInteger.ONE, -1);
    private static final Value NOT_A_NUMBER = Value.plain(NOT, false);

    final int precision;
    final Value[] slots = new Value[8];
    int mode = 0;
    int flags = 0;

    Model(int precision) {
        this.precision = precision < 2 ? 2 : precision > 64 ? 64 : precision;
        for (int i = 0; i < 8; i++) {
            slots[i] = Value.plain(ZERO, false);
        }
    }

    static boolean slot(int x) {
        return 0 <= x && x <= 7;
    }

    Fraction exact(Value v) {
        BigInteger m = v.negative ? v.whole.negate() : v.whole;
        return v.kind == ZERO ? Fraction.of(BigInteger.ZERO, 0) : Fraction.of(m, v.exponent - precision + 1);
    }

    // ---- ROUNDING

    /** v, not 0, becomes a multiple of 1: below it, or above it, as the mode says. */
    private BigInteger toMultiple(Fraction v) {
        BigInteger lower = v.floor();
        Fraction part = v.minus(Fraction.of(lower, 0));
        if (part.n.signum() == 0) {
            return lower;
        }
        BigInteger upper = lower.add(BigInteger.ONE);
        BigInteger nearerToZero = v.n.signum() > 0 ? lower : upper;
        BigInteger farther = v.n.signum() > 0 ? upper : lower;
        int half = part.compareTo(HALF);
        switch (mode) {
            case 1:
                return nearerToZero;
            case 2:
                return upper;
            case 3:
                return lower;
            case 4:
                return half < 0 ? lower : half > 0 ? upper : farther;
            default:
                return half < 0 ? lower : half > 0 ? upper : lower.testBit(0) ? upper : lower;
        }
    }

    private static int exponentOf(Fraction v) {
        int e = v.n.abs().bitLength() - v.d.bitLength() + 1;
        while (Fraction.of(BigInteger.ONE, e).compareTo(v.abs()) > 0) {
            e--;
        }
        return e;
    }

    private Value greatest(boolean negative) {
        return new Value(NORMAL, negative, BigInteger.ONE.shiftLeft(precision).subtract(BigInteger.ONE), 100);
    }

    private Value rounded(Fraction v, boolean zeroNegative) {
        if (v.n.signum() == 0) {
            return Value.plain(ZERO, zeroNegative);
        }
        boolean negative = v.n.signum() < 0;
        boolean tiny = v.abs().compareTo(Fraction.of(BigInteger.ONE, -100)) < 0;
        int e = Math.max(-100, exponentOf(v));
        int unit = e - precision + 1;
        BigInteger count = toMultiple(v.over(Fraction.of(BigInteger.ONE, unit)));
        Fraction result = Fraction.of(count, unit);
        if (result.abs().compareTo(Fraction.of(BigInteger.ONE, 101)) >= 0) {
            flags |= 4 | 1;
            boolean kept = mode == 1 || mode == 2 && negative || mode == 3 && !negative;
            return kept ? greatest(negative) : Value.plain(INFINITE, negative);
        }
        if (result.compareTo(v) != 0) {
            flags |= tiny ? 3 : 1;
        }
        return representing(result, negative);
    }

    /** A number that is known to be a float. */
    private Value representing(Fraction v, boolean negative) {
        if (v.n.signum() == 0) {
            return Value.plain(ZERO, negative);
        }
        int e = Math.max(-100, exponentOf(v));
        Fraction m = v.abs().over(Fraction.of(BigInteger.ONE, e - precision + 1));
        BigInteger whole = m.floor();
        if (Fraction.of(whole, 0).compareTo(m) != 0 || whole.bitLength() > precision || e > 100) {
            throw new IllegalStateException("no float: " + v.n + "/" + v.d);
        }
        return new Value(whole.bitLength() < precision ? SUBNORMAL : NORMAL, negative, whole, e);
    }

    private Value invalid() {
        flags |= 16;
        return NOT_A_NUMBER;
    }

    // ---- the calls

    boolean load(int into, int m, int e) {
        if (!slot(into) || e < -300 || e > 300) {
            return false;
        }
        slots[into] = rounded(Fraction.of(BigInteger.valueOf(m), e), false);
        return true;
    }

    boolean special(int into, int what, boolean negative) {
        if (!slot(into) || what < 0 || what > 2) {
            return false;
        }
        slots[into] = what == 0 ? Value.plain(ZERO, negative) : what == 1 ? Value.plain(INFINITE, negative) : NOT_A_NUMBER;
        return true;
    }

    boolean mode(int m) {
        if (m < 0 || m > 4) {
            return false;
        }
        mode = m;
        return true;
    }

    boolean calculate(int op, int x, int y, int into) {
        if (op < 0 || op > 6 || !slot(x) || !slot(y) || !slot(into)) {
            return false;
        }
        slots[into] = result(op, slots[x], slots[y]);
        return true;
    }

    private Value result(int op, Value x, Value y) {
        if (x.kind == NOT || y.kind == NOT) {
            return NOT_A_NUMBER;
        }
        switch (op) {
            case 0:
                return sum(x, y);
            case 1:
                return sum(x, new Value(y.kind, !y.negative, y.whole, y.exponent));
            case 2:
                return product(x, y);
            case 3:
                return quotient(x, y);
            case 4:
                return remainder(x, y);
            default:
                boolean less = order(x, y) < 0 || order(x, y) == 0 && x.negative;
                return op == 5 ? (less ? x : y) : (less ? y : x);
        }
    }

    private Value sum(Value x, Value y) {
        if (x.kind == INFINITE && y.kind == INFINITE) {
            return x.negative == y.negative ? x : invalid();
        }
        if (x.kind == INFINITE || y.kind == INFINITE) {
            return x.kind == INFINITE ? x : y;
        }
        boolean sameZeros = x.kind == ZERO && y.kind == ZERO && x.negative == y.negative;
        return rounded(exact(x).plus(exact(y)), sameZeros ? x.negative : mode == 3);
    }

    private Value product(Value x, Value y) {
        boolean negative = x.negative ^ y.negative;
        if (x.kind == INFINITE || y.kind == INFINITE) {
            return x.kind == ZERO || y.kind == ZERO ? invalid() : Value.plain(INFINITE, negative);
        }
        return rounded(exact(x).times(exact(y)), negative);
    }

    private Value quotient(Value x, Value y) {
        boolean negative = x.negative ^ y.negative;
        if (x.kind == y.kind && (x.kind == ZERO || x.kind == INFINITE)) {
            return invalid();
        }
        if (y.kind == ZERO) {
            flags |= x.kind == INFINITE ? 0 : 8;
            return Value.plain(INFINITE, negative);
        }
        if (x.kind == INFINITE || y.kind == INFINITE) {
            return Value.plain(x.kind == INFINITE ? INFINITE : ZERO, negative);
        }
        return rounded(exact(x).over(exact(y)), negative);
    }

    private Value remainder(Value x, Value y) {
        if (x.kind == INFINITE || y.kind == ZERO) {
            return invalid();
        }
        if (y.kind == INFINITE) {
            return x;
        }
        Fraction a = exact(x);
        Fraction b = exact(y);
        Fraction ratio = a.over(b);
        BigInteger n = ratio.floor();
        int half = ratio.minus(Fraction.of(n, 0)).compareTo(HALF);
        if (half > 0 || half == 0 && n.testBit(0)) {
            n = n.add(BigInteger.ONE);
        }
        return rounded(a.minus(b.times(Fraction.of(n, 0))), x.negative);
    }

    private int order(Value x, Value y) {
        int sideX = x.kind == INFINITE ? (x.negative ? -1 : 1) : 0;
        int sideY = y.kind == INFINITE ? (y.negative ? -1 : 1) : 0;
        return sideX != 0 || sideY != 0 ? Integer.compare(sideX, sideY) : exact(x).compareTo(exact(y));
    }

    boolean fuse(int x, int y, int z, int into) {
        if (!slot(x) || !slot(y) || !slot(z) || !slot(into)) {
            return false;
        }
        slots[into] = fused(slots[x], slots[y], slots[z]);
        return true;
    }

    private Value fused(Value x, Value y, Value z) {
        if (x.kind == NOT || y.kind == NOT || z.kind == NOT) {
            return NOT_A_NUMBER;
        }
        if (x.kind == INFINITE || y.kind == INFINITE) {
            Value product = product(x, y);
            return product.kind == NOT ? product : sum(product, z);
        }
        if (z.kind == INFINITE) {
            return z;
        }
        boolean negative = x.negative ^ y.negative;
        Fraction product = exact(x).times(exact(y));
        boolean sameZeros = product.n.signum() == 0 && z.kind == ZERO && negative == z.negative;
        return rounded(product.plus(exact(z)), sameZeros ? negative : mode == 3);
    }

    boolean root(int x, int into) {
        if (!slot(x) || !slot(into)) {
            return false;
        }
        Value v = slots[x];
        if (v.kind == NOT || v.kind == ZERO) {
            slots[into] = v;
        } else if (v.negative) {
            slots[into] = invalid();
        } else {
            slots[into] = v.kind == INFINITE ? v : rootOf(exact(v));
        }
        return true;
    }

    /** The root is above 2^-83, so 400 places and one that tells whether anything follows round as it does. */
    private Value rootOf(Fraction v) {
        int places = 400;
        BigInteger square = v.times(Fraction.of(BigInteger.ONE, 2 * places)).floor();
        BigInteger side = square.sqrt();
        Fraction found = Fraction.of(side, -places);
        if (found.times(found).compareTo(v) != 0) {
            found = Fraction.of(side.shiftLeft(1).add(BigInteger.ONE), -places - 1);
        }
        return rounded(found, false);
    }

    boolean whole(int x, int into) {
        if (!slot(x) || !slot(into)) {
            return false;
        }
        Value v = slots[x];
        if (v.finite()) {
            Fraction count = Fraction.of(toMultiple(exact(v)), 0);
            flags |= count.compareTo(exact(v)) == 0 ? 0 : 1;
            v = representing(count, v.negative);
        }
        slots[into] = v;
        return true;
    }

    boolean step(int x, boolean up, int into) {
        if (!slot(x) || !slot(into)) {
            return false;
        }
        slots[into] = stepped(slots[x], up);
        return true;
    }

    private Value stepped(Value v, boolean up) {
        if (v.kind == NOT) {
            return v;
        }
        if (v.kind == INFINITE) {
            return up != v.negative ? v : greatest(v.negative);
        }
        // Between v and the next float in this direction lies v and half the least distance.
        Fraction least = Fraction.of(BigInteger.ONE, -100 - precision + 1);
        Fraction beyond = up ? exact(v).plus(least.times(HALF)) : exact(v).minus(least.times(HALF));
        int modeBefore = mode;
        int flagsBefore = flags;
        mode = up ? 2 : 3;
        Value next = rounded(beyond, false);
        mode = modeBefore;
        flags = flagsBefore;
        return next;
    }

    boolean scale(int x, int k, int into) {
        if (!slot(x) || !slot(into) || k < -400 || k > 400) {
            return false;
        }
        Value v = slots[x];
        slots[into] = v.finite() ? rounded(exact(v).times(Fraction.of(BigInteger.ONE, k)), false) : v;
        return true;
    }

    int compare(int x, int y) {
        if (!slot(x) || !slot(y)) {
            return -2;
        }
        return slots[x].kind == NOT || slots[y].kind == NOT ? 2 : order(slots[x], slots[y]);
    }

    int integer(int x) {
        if (!slot(x) || slots[x].kind == NOT) {
            return 0;
        }
        Value v = slots[x];
        BigInteger cut = v.kind == INFINITE ? BigInteger.ONE.shiftLeft(200) : exact(v).abs().floor();
        cut = v.negative ? cut.negate() : cut;
        BigInteger most = BigInteger.valueOf(Integer.MAX_VALUE);
        BigInteger least = BigInteger.valueOf(Integer.MIN_VALUE);
        return cut.min(most).max(least).intValue();
    }

    int kind(int x) {
        return slot(x) ? slots[x].kind : -1;
    }

    boolean negative(int x) {
        return slot(x) && slots[x].negative;
    }

    int exponent(int x) {
        return slot(x) && slots[x].finite() ? slots[x].exponent : -1000;
    }

    int bits(int x, int k) {
        boolean some = slot(x) && slots[x].finite() && 0 <= k && k <= 3;
        return some ? slots[x].whole.shiftRight(16 * k).intValue() & 0xFFFF : 0;
    }

    int flags() {
        int taken = flags;
        flags = 0;
        return taken;
    }
}
