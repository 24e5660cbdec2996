/*
 * Every operation builds its exact value in one wide fixed-point number, the limbs, and rounds it
 * from there: so all operations share one rounding, and no bit is lost before it.
 */
public final class LimbFloats {
    public static final int ZERO = 0, SUBNORMAL = 1, NORMAL = 2, INFINITE = 3, NOT = 4;

    private static final int SLOTS = 8;
    private static final int LEAST_PRECISION = 2, MOST_PRECISION = 64;
    private static final int LEAST_EXPONENT = -100, MOST_EXPONENT = 100;
    private static final int MOST_LOAD = 300, MOST_SCALE = 400;
    private static final int NO_EXPONENT = -1000;
    private static final int LEAST_INT = -2147483648, MOST_INT = 2147483647;

    private static final int MAKE_ZERO = 0, MAKE_INFINITE = 1, MAKE_NOT = 2;
    private static final int TO_EVEN = 0, TO_ZERO = 1, UPWARD = 2, DOWNWARD = 3, FROM_ZERO = 4;
    private static final int ADD = 0, SUBTRACT = 1, MULTIPLY = 2, DIVIDE = 3, REMAINDER = 4, LEAST = 5, GREATEST = 6;
    private static final int INEXACT = 1, UNDERFLOW = 2, OVERFLOW = 4, DIVISION = 8, INVALID = 16;

    // What lies below the last bit that is kept, in quarters of that bit: 1 stands for all below
    // the half and 3 for all above it.
    private static final int NOTHING = 0, BELOW_HALF = 1, HALF = 2, ABOVE_HALF = 3;

    // scale reaches farthest, from 2^(-163 - 400) to below 2^(101 + 400). The limbs hold the
    // multiples of 2^FLOOR from -2^511 to below 2^511, so nothing falls off either end.
    private static final int LIMBS = 34, LIMB_BITS = 32, FLOOR = -576;
    private static final long LIMB_MASK = 0xFFFFFFFFL, LIMB_SIGN = 0x80000000L;
    private static final long LONG_SIGN = 1L << 63;

    private final int[] kinds = new int[SLOTS];
    private final boolean[] signs = new boolean[SLOTS];
    private final int[] exponents = new int[SLOTS];
    // M without a sign; 0 where there is none, so that zeros enter sums and products as they are.
    private final long[] wholes = new long[SLOTS];
    // Two's complement, the lowest limb first, so that sums need not look at signs.
    private final long[] limbs = new long[LIMBS];
    private final int precision;
    private final long leastNormal;
    private final long greatestWhole;
    private int direction = TO_EVEN;
    private int raised = 0;

    public LimbFloats(int precision) {
        int kept = precision;
        if (kept < LEAST_PRECISION) {
            kept = LEAST_PRECISION;
        }
        if (kept > MOST_PRECISION) {
            kept = MOST_PRECISION;
        }
        this.precision = kept;
        leastNormal = 1L << (kept - 1);
        greatestWhole = -1L >>> (MOST_PRECISION - kept);
    }

    public boolean load(int into, int m, int e) {
        if (noSlot(into) || e < -MOST_LOAD || e > MOST_LOAD) {
            return false;
        }
        // As a long, since the least int has no counterpart above 0.
        long size = m;
        if (m < 0) {
            size = -size;
        }
        clearLimbs();
        addIn(m < 0, size, e);
        settle(into, false);
        return true;
    }

    public boolean special(int into, int what, boolean negative) {
        if (noSlot(into) || what < MAKE_ZERO || what > MAKE_NOT) {
            return false;
        }
        if (what == MAKE_ZERO) {
            putPlain(into, ZERO, negative);
        } else if (what == MAKE_INFINITE) {
            putPlain(into, INFINITE, negative);
        } else {
            putPlain(into, NOT, false);
        }
        return true;
    }

    public boolean mode(int m) {
        if (m < TO_EVEN || m > FROM_ZERO) {
            return false;
        }
        direction = m;
        return true;
    }

    public boolean calculate(int op, int x, int y, int into) {
        if (op < ADD || op > GREATEST || noSlot(x) || noSlot(y) || noSlot(into)) {
            return false;
        }
        if (kinds[x] == NOT || kinds[y] == NOT) {
            putPlain(into, NOT, false);
        } else if (op == ADD) {
            addFloats(x, y, signs[y], into);
        } else if (op == SUBTRACT) {
            addFloats(x, y, !signs[y], into);
        } else if (op == MULTIPLY) {
            multiplyFloats(x, y, into);
        } else if (op == DIVIDE) {
            divideFloats(x, y, into);
        } else if (op == REMAINDER) {
            takeRemainder(x, y, into);
        } else {
            chooseFloat(x, y, op == LEAST, into);
        }
        return true;
    }

    public boolean fuse(int x, int y, int z, int into) {
        if (noSlot(x) || noSlot(y) || noSlot(z) || noSlot(into)) {
            return false;
        }
        boolean sign = signs[x] != signs[y];
        boolean infinite = kinds[x] == INFINITE || kinds[y] == INFINITE;
        boolean opposed = infinite && kinds[z] == INFINITE && sign != signs[z];
        if (kinds[x] == NOT || kinds[y] == NOT || kinds[z] == NOT) {
            putPlain(into, NOT, false);
        } else if (opposed || isZeroTimesInfinite(x, y)) {
            putInvalid(into);
        } else if (infinite) {
            putPlain(into, INFINITE, sign);
        } else if (kinds[z] == INFINITE) {
            putPlain(into, INFINITE, signs[z]);
        } else {
            clearLimbs();
            addProduct(sign, x, y);
            addFloat(signs[z], z);
            boolean zeroSign = signOfZeroSum(sign, signs[z]);
            settle(into, zeroSign);
        }
        return true;
    }

    public boolean root(int x, int into) {
        if (noSlot(x) || noSlot(into)) {
            return false;
        }
        if (kinds[x] == NOT || kinds[x] == ZERO) {
            copyFloat(x, into);
        } else if (signs[x]) {
            putInvalid(into);
        } else if (kinds[x] == INFINITE) {
            putPlain(into, INFINITE, false);
        } else {
            holdRoot(x);
            settle(into, false);
        }
        return true;
    }

    public boolean whole(int x, int into) {
        if (noSlot(x) || noSlot(into)) {
            return false;
        }
        if (isFinite(x)) {
            roundToWhole(x, into);
        } else {
            copyFloat(x, into);
        }
        return true;
    }

    public boolean step(int x, boolean up, int into) {
        if (noSlot(x) || noSlot(into)) {
            return false;
        }
        boolean outward = up != signs[x];
        if (kinds[x] == NOT) {
            putPlain(into, NOT, false);
        } else if (kinds[x] == ZERO) {
            putFinite(into, !up, LEAST_EXPONENT, 1L);
        } else if (outward) {
            stepOutward(x, into);
        } else {
            stepInward(x, into);
        }
        return true;
    }

    public boolean scale(int x, int k, int into) {
        if (noSlot(x) || noSlot(into) || k < -MOST_SCALE || k > MOST_SCALE) {
            return false;
        }
        if (isFinite(x)) {
            int unit = unitOf(x);
            clearLimbs();
            addIn(signs[x], wholes[x], unit + k);
            settle(into, signs[x]);
        } else {
            copyFloat(x, into);
        }
        return true;
    }

    public int compare(int x, int y) {
        if (noSlot(x) || noSlot(y)) {
            return -2;
        }
        if (kinds[x] == NOT || kinds[y] == NOT) {
            return 2;
        }
        return orderOf(x, y);
    }

    public int integer(int x) {
        if (noSlot(x) || kinds[x] == NOT || kinds[x] == ZERO) {
            return 0;
        }
        if (kinds[x] == INFINITE || exponents[x] > 30) {
            return signs[x] ? LEAST_INT : MOST_INT;
        }
        if (exponents[x] < 0) {
            return 0;
        }
        int unit = unitOf(x);
        long size = unit < 0 ? wholes[x] >>> -unit : wholes[x] << unit;
        return (int) (signs[x] ? -size : size);
    }

    public int kind(int x) {
        return noSlot(x) ? -1 : kinds[x];
    }

    public boolean negative(int x) {
        return !noSlot(x) && signs[x];
    }

    public int exponent(int x) {
        return noSlot(x) || !isFinite(x) ? NO_EXPONENT : exponents[x];
    }

    public int bits(int x, int k) {
        if (noSlot(x) || !isFinite(x) || k < 0 || k > 3) {
            return 0;
        }
        return (int) (wholes[x] >>> (16 * k)) & 0xFFFF;
    }

    public int flags() {
        int taken = raised;
        raised = 0;
        return taken;
    }

    // The operations, each for operands that are numbers.

    private void addFloats(int x, int y, boolean signY, int into) {
        if (kinds[x] == INFINITE && kinds[y] == INFINITE && signs[x] != signY) {
            putInvalid(into);
        } else if (kinds[x] == INFINITE) {
            putPlain(into, INFINITE, signs[x]);
        } else if (kinds[y] == INFINITE) {
            putPlain(into, INFINITE, signY);
        } else {
            clearLimbs();
            addFloat(signs[x], x);
            addFloat(signY, y);
            boolean zeroSign = signOfZeroSum(signs[x], signY);
            settle(into, zeroSign);
        }
    }

    // Two values of the same sign add up to 0 only if both are zeros: the signs alone tell.
    private boolean signOfZeroSum(boolean one, boolean other) {
        return one == other ? one : direction == DOWNWARD;
    }

    private void multiplyFloats(int x, int y, int into) {
        boolean sign = signs[x] != signs[y];
        if (isZeroTimesInfinite(x, y)) {
            putInvalid(into);
        } else if (kinds[x] == INFINITE || kinds[y] == INFINITE) {
            putPlain(into, INFINITE, sign);
        } else {
            clearLimbs();
            addProduct(sign, x, y);
            settle(into, sign);
        }
    }

    private boolean isZeroTimesInfinite(int x, int y) {
        return kinds[x] == ZERO && kinds[y] == INFINITE || kinds[x] == INFINITE && kinds[y] == ZERO;
    }

    private void divideFloats(int x, int y, int into) {
        boolean sign = signs[x] != signs[y];
        boolean zeros = kinds[x] == ZERO && kinds[y] == ZERO;
        boolean infinities = kinds[x] == INFINITE && kinds[y] == INFINITE;
        if (zeros || infinities) {
            putInvalid(into);
        } else if (kinds[x] == INFINITE) {
            putPlain(into, INFINITE, sign);
        } else if (kinds[y] == ZERO) {
            raised |= DIVISION;
            putPlain(into, INFINITE, sign);
        } else if (kinds[x] == ZERO || kinds[y] == INFINITE) {
            putPlain(into, ZERO, sign);
        } else {
            clearLimbs();
            addQuotient(sign, x, y);
            settle(into, sign);
        }
    }

    private void takeRemainder(int x, int y, int into) {
        if (kinds[x] == INFINITE || kinds[y] == ZERO) {
            putInvalid(into);
        } else if (kinds[x] == ZERO || kinds[y] == INFINITE) {
            copyFloat(x, into);
        } else {
            holdRemainder(x, y);
            settle(into, signs[x]);
        }
    }

    private void chooseFloat(int x, int y, boolean least, int into) {
        int order = orderOf(x, y);
        // Among equals only zeros can differ in sign, and the one with the minus is less.
        boolean lessX = order < 0 || order == 0 && signs[x];
        copyFloat(lessX == least ? x : y, into);
    }

    private int orderOf(int x, int y) {
        int sideX = infiniteSideOf(x);
        int sideY = infiniteSideOf(y);
        if (sideX != sideY) {
            return sideX < sideY ? -1 : 1;
        }
        if (sideX != 0) {
            return 0;
        }
        clearLimbs();
        addFloat(signs[x], x);
        addFloat(!signs[y], y);
        return signOfLimbs();
    }

    private int infiniteSideOf(int x) {
        if (kinds[x] != INFINITE) {
            return 0;
        }
        return signs[x] ? -1 : 1;
    }

    private void roundToWhole(int x, int into) {
        // A float without a fraction may have more than the 64 bits that are looked at below.
        if (exponents[x] >= precision - 1) {
            copyFloat(x, into);
            return;
        }
        boolean sign = signs[x];
        clearLimbs();
        addFloat(false, x);
        long count = bitsFrom(0);
        int rest = restBelow(0);
        if (rest != NOTHING) {
            raised |= INEXACT;
        }
        if (goesOutward(sign, count, rest)) {
            count++;
        }
        clearLimbs();
        addIn(sign, count, 0);
        settle(into, sign);
    }

    private void stepOutward(int x, int into) {
        if (kinds[x] == INFINITE) {
            copyFloat(x, into);
        } else if (wholes[x] != greatestWhole) {
            putFinite(into, signs[x], exponents[x], wholes[x] + 1);
        } else if (exponents[x] < MOST_EXPONENT) {
            putFinite(into, signs[x], exponents[x] + 1, leastNormal);
        } else {
            putPlain(into, INFINITE, signs[x]);
        }
    }

    private void stepInward(int x, int into) {
        if (kinds[x] == INFINITE) {
            putFinite(into, signs[x], MOST_EXPONENT, greatestWhole);
        } else if (wholes[x] == leastNormal && exponents[x] > LEAST_EXPONENT) {
            putFinite(into, signs[x], exponents[x] - 1, greatestWhole);
        } else if (wholes[x] != 1) {
            putFinite(into, signs[x], exponents[x], wholes[x] - 1);
        } else {
            putPlain(into, ZERO, signs[x]);
        }
    }

    // The slots.

    private boolean noSlot(int x) {
        return x < 0 || x >= SLOTS;
    }

    private boolean isFinite(int x) {
        return kinds[x] == SUBNORMAL || kinds[x] == NORMAL;
    }

    private int unitOf(int x) {
        return exponents[x] - precision + 1;
    }

    private void putPlain(int into, int what, boolean sign) {
        kinds[into] = what;
        signs[into] = sign;
        exponents[into] = LEAST_EXPONENT;
        wholes[into] = 0;
    }

    private void putFinite(int into, boolean sign, int e, long m) {
        kinds[into] = (m & leastNormal) == 0 ? SUBNORMAL : NORMAL;
        signs[into] = sign;
        exponents[into] = e;
        wholes[into] = m;
    }

    private void putInvalid(int into) {
        raised |= INVALID;
        putPlain(into, NOT, false);
    }

    private void putOverflow(int into, boolean sign) {
        raised |= INEXACT | OVERFLOW;
        boolean inward = direction == TO_ZERO || direction == UPWARD && sign || direction == DOWNWARD && !sign;
        if (inward) {
            putFinite(into, sign, MOST_EXPONENT, greatestWhole);
        } else {
            putPlain(into, INFINITE, sign);
        }
    }

    private void copyFloat(int x, int into) {
        kinds[into] = kinds[x];
        signs[into] = signs[x];
        exponents[into] = exponents[x];
        wholes[into] = wholes[x];
    }

    // Rounding.

    // A float becomes what the limbs hold, rounded, and a zero of the sign given if that is 0.
    private void settle(int into, boolean zeroSign) {
        boolean sign = signOfLimbs() < 0;
        if (sign) {
            negateLimbs();
        }
        int top = topOfLimbs();
        if (top < FLOOR) {
            putPlain(into, ZERO, zeroSign);
            return;
        }
        int e = top < LEAST_EXPONENT ? LEAST_EXPONENT : top;
        int unit = e - precision + 1;
        long m = bitsFrom(unit);
        int rest = restBelow(unit);
        if (rest != NOTHING) {
            raised |= top < LEAST_EXPONENT ? INEXACT | UNDERFLOW : INEXACT;
        }
        if (goesOutward(sign, m, rest)) {
            e = m == greatestWhole ? e + 1 : e;
            m = m == greatestWhole ? leastNormal : m + 1;
        }
        if (e > MOST_EXPONENT) {
            putOverflow(into, sign);
        } else if (m == 0) {
            putPlain(into, ZERO, sign);
        } else {
            putFinite(into, sign, e, m);
        }
    }

    private boolean goesOutward(boolean sign, long m, int rest) {
        switch (direction) {
            case TO_EVEN:
                return rest == ABOVE_HALF || rest == HALF && (m & 1) != 0;
            case UPWARD:
                return rest != NOTHING && !sign;
            case DOWNWARD:
                return rest != NOTHING && sign;
            case FROM_ZERO:
                return rest == HALF || rest == ABOVE_HALF;
            default:
                return false;
        }
    }

    // Exact values: add.. changes what the limbs hold by one, hold.. works in them and leaves one.

    private void addFloat(boolean sign, int x) {
        int unit = unitOf(x);
        addIn(sign, wholes[x], unit);
    }

    private void addProduct(boolean sign, int x, int y) {
        int unit = unitOf(x) + unitOf(y);
        addTimes(sign, wholes[x], wholes[y], unit);
    }

    private void addTimes(boolean sign, long a, long b, int unit) {
        long lowA = a & LIMB_MASK;
        long highA = a >>> LIMB_BITS;
        long lowB = b & LIMB_MASK;
        long highB = b >>> LIMB_BITS;
        addIn(sign, lowA * lowB, unit);
        addIn(sign, lowA * highB, unit + LIMB_BITS);
        addIn(sign, highA * lowB, unit + LIMB_BITS);
        addIn(sign, highA * highB, unit + 2 * LIMB_BITS);
    }

    // With both numbers shifted up to 64 bits their quotient is above 1/2. So 66 bits of it, the
    // first of worth 1, hold the 64 of the greatest precision and one to round by; a last one
    // stands for all that follows.
    private void addQuotient(boolean sign, int x, int y) {
        int roomX = roomAbove(wholes[x]);
        int roomY = roomAbove(wholes[y]);
        int unit = (unitOf(x) - roomX) - (unitOf(y) - roomY);
        long divisor = wholes[y] << roomY;
        long rest = wholes[x] << roomX;
        boolean carried = false;
        for (int i = 0; i < 66; i++) {
            if (carried || !isBelow(rest, divisor)) {
                rest -= divisor;
                addIn(sign, 1L, unit - i);
            }
            carried = rest < 0;
            rest <<= 1;
        }
        if (carried || rest != 0) {
            addIn(sign, 1L, unit - 66);
        }
    }

    // First x - n y with n cut towards 0, by long division; then one y more if that is nearer.
    private void holdRemainder(int x, int y) {
        int roomX = roomAbove(wholes[x]);
        int roomY = roomAbove(wholes[y]);
        int unit = unitOf(x) - roomX;
        int unitY = unitOf(y) - roomY;
        long divisor = wholes[y] << roomY;
        long rest = wholes[x] << roomX;
        int gap = unit - unitY;
        boolean carried = false;
        boolean odd = false;
        for (int i = 0; i <= gap; i++) {
            odd = carried || !isBelow(rest, divisor);
            if (odd) {
                rest -= divisor;
            }
            carried = i < gap && rest < 0;
            rest = i < gap ? rest << 1 : rest;
        }
        if (gap > 0) {
            unit = unitY;
        }
        clearLimbs();
        addIn(false, rest, unit + 1);
        addIn(true, divisor, unitY);
        int half = signOfLimbs();
        clearLimbs();
        addIn(signs[x], rest, unit);
        if (half > 0 || half == 0 && odd) {
            addIn(!signs[x], divisor, unitY);
        }
    }

    // x is a square of 127 or 128 bits times 2^unit with an even unit: so the whole part of the
    // root has the 64 bits of the greatest precision.
    private void holdRoot(int x) {
        int unit = unitOf(x) - roomAbove(wholes[x]) - 63;
        if ((unit & 1) != 0) {
            unit--;
        }
        long found = 0;
        for (int i = 63; i >= 0; i--) {
            long tried = found | 1L << i;
            leaveBeyondSquare(x, tried, unit);
            if (signOfLimbs() >= 0) {
                found = tried;
            }
        }
        leaveBeyondSquare(x, found, unit);
        int beyond = signOfLimbs();
        // (found + 1/2)^2 is found^2 + found + 1/4, and x is whole in these units: x is never
        // equal to it, and is above it if more than found is left.
        addIn(true, found, unit);
        int beyondHalf = signOfLimbs();
        int rest = beyond == 0 ? NOTHING : beyondHalf > 0 ? ABOVE_HALF : BELOW_HALF;
        clearLimbs();
        addIn(false, found, unit >> 1);
        addIn(false, rest, (unit >> 1) - 2);
    }

    private void leaveBeyondSquare(int x, long side, int unit) {
        clearLimbs();
        addFloat(false, x);
        addTimes(true, side, side, unit);
    }

    private int roomAbove(long m) {
        for (int room = 0; room < 63; room++) {
            if (m << room < 0) {
                return room;
            }
        }
        return 63;
    }

    // Longs that stand for numbers from 0 to 2^64 - 1.
    private boolean isBelow(long a, long b) {
        return (a ^ LONG_SIGN) < (b ^ LONG_SIGN);
    }

    // The limbs.

    private void clearLimbs() {
        for (int i = 0; i < LIMBS; i++) {
            limbs[i] = 0;
        }
    }

    private void addIn(boolean sign, long m, int unit) {
        int first = (unit - FLOOR) >> 5;
        int shift = (unit - FLOOR) & 31;
        long carry = 0;
        for (int i = 0; i < LIMBS; i++) {
            long part = 0;
            if (i == first) {
                part = m << shift & LIMB_MASK;
            } else if (i == first + 1) {
                part = m >>> (LIMB_BITS - shift) & LIMB_MASK;
            } else if (i == first + 2) {
                // In two shifts, since one by 64 would be none.
                part = m >>> LIMB_BITS >>> (LIMB_BITS - shift);
            }
            carry += sign ? limbs[i] - part : limbs[i] + part;
            limbs[i] = carry & LIMB_MASK;
            carry >>= LIMB_BITS;
        }
    }

    private void negateLimbs() {
        long carry = 0;
        for (int i = 0; i < LIMBS; i++) {
            carry -= limbs[i];
            limbs[i] = carry & LIMB_MASK;
            carry >>= LIMB_BITS;
        }
    }

    private int signOfLimbs() {
        if (limbs[LIMBS - 1] >= LIMB_SIGN) {
            return -1;
        }
        for (int i = 0; i < LIMBS; i++) {
            if (limbs[i] != 0) {
                return 1;
            }
        }
        return 0;
    }

    // The greatest e with 2^e not above what the limbs hold; below FLOOR if that is 0.
    private int topOfLimbs() {
        for (int i = LIMBS * LIMB_BITS - 1; i >= 0; i--) {
            if ((limbs[i >> 5] >>> (i & 31) & 1) != 0) {
                return i + FLOOR;
            }
        }
        return FLOOR - 1;
    }

    // How often 2^unit goes into what the limbs hold, if that is less than 2^64 times.
    private long bitsFrom(int unit) {
        int first = (unit - FLOOR) >> 5;
        int shift = (unit - FLOOR) & 31;
        long found = 0;
        for (int i = 0; i < LIMBS; i++) {
            if (i == first) {
                found |= limbs[i] >>> shift;
            } else if (i == first + 1) {
                found |= limbs[i] << (LIMB_BITS - shift);
            } else if (i == first + 2) {
                // In two shifts, since one by 64 would be none.
                found |= limbs[i] << LIMB_BITS << (LIMB_BITS - shift);
            }
        }
        return found;
    }

    private int restBelow(int unit) {
        int place = unit - FLOOR;
        int rest = NOTHING;
        for (int i = 0; i < LIMBS * LIMB_BITS && i < place; i++) {
            boolean set = (limbs[i >> 5] >>> (i & 31) & 1) != 0;
            if (i < place - 1) {
                rest = set ? BELOW_HALF : rest;
            } else if (set) {
                rest += HALF;
            }
        }
        return rest;
    }
}
