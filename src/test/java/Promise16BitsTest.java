public final class Promise16BitsTest {
    private static final Due due = new Due();
    private static final Refusal refusal = new Refusal(due);

    public static void main(String[] args) {
        due.sentence("The bits 16 k to 16 k + 15 of M (k 0..3) of a finite float", Promise16BitsTest::finite);
        due.sentence("The bits ... of a finite float: at each precision", Promise16BitsTest::everyPrecision);
        due.sentence("The bits ... of a finite float: a subnormal one", Promise16BitsTest::subnormal);
        due.sentence("The bits ..., and nothing changes", Promise16BitsTest::changesNothing);
        due.sentence("0 otherwise: not finite", Promise16BitsTest::notFinite);
        due.sentence("0 otherwise: k not 0..3", Promise16BitsTest::noSuchBits);
        due.sentence("0 otherwise: no such slot", Promise16BitsTest::noSlot);
        due.end();
    }

    private static void is(int precision, String x, int... want) {
        Trial trial = new Trial(precision);
        trial.put(4, x);
        for (int k = 0; k < 4; k++) {
            due.same("bits " + k + " of " + x + " at " + precision, trial.floats.bits(4, k), want[k]);
        }
    }

    private static void finite() {
        // 0x923456789ABCDEF1 and 0x8001C003F00F8AF1
        is(64, "+10535140504318566129p0", 0xDEF1, 0x9ABC, 0x5678, 0x9234);
        is(64, "-10535140504318566129p-90", 0xDEF1, 0x9ABC, 0x5678, 0x9234);
        is(64, "+9223864634976471793p37", 0x8AF1, 0xF00F, 0xC003, 0x8001);
        is(64, "+18446744073709551615p0", 0xFFFF, 0xFFFF, 0xFFFF, 0xFFFF);
        is(64, "-1p5", 0, 0, 0, 0x8000);
        is(24, "+5p0", 0, 0xA0, 0, 0);
        is(17, "+131071p0", 0xFFFF, 1, 0, 0);
        is(16, "+65535p0", 0xFFFF, 0, 0, 0);
        is(2, "+3p99", 3, 0, 0, 0);
    }

    /** M of 1 is 2^(p - 1), one bit in one place. */
    private static void everyPrecision() {
        for (int precision = 2; precision <= 64; precision++) {
            int[] want = new int[4];
            want[(precision - 1) / 16] = 1 << (precision - 1) % 16;
            is(precision, "+1p0", want);
            is(precision, "-1p-100", want);
            is(precision, "+1p100", want);
        }
    }

    private static void subnormal() {
        is(64, "+1p-163s", 1, 0, 0, 0);
        is(64, "+9223372036854775807p-163s", 0xFFFF, 0xFFFF, 0xFFFF, 0x7FFF);
        is(5, "-3p-104s", 3, 0, 0, 0);
        is(2, "-1p-101s", 1, 0, 0, 0);
        for (int place = 0; place < 63; place++) {
            int[] want = new int[4];
            want[place / 16] = 1 << place % 16;
            is(64, "+1p" + (place - 163) + "s", want);
        }
    }

    private static void changesNothing() {
        for (int x = 0; x < 8; x++) {
            int slot = x;
            refusal.answers("bits(" + x + ", 2)", 0, f -> f.bits(slot, 2));
        }
        refusal.answers("bits(7, 0)", 1, f -> f.bits(7, 0));
    }

    /** What is not finite shows no bits of what was there before. */
    private static void notFinite() {
        for (String other : new String[] {"+0", "-0", "+inf", "-inf", "not"}) {
            is(64, other, 0, 0, 0, 0);
            Trial trial = new Trial(64);
            trial.put(4, "-18446744073709551615p0");
            trial.put(4, other);
            for (int k = 0; k < 4; k++) {
                due.same("bits " + k + " of " + other, trial.floats.bits(4, k), 0);
            }
        }
        Trial trial = new Trial(64);
        trial.put(4, "-18446744073709551615p0");
        trial.floats.root(4, 4);
        due.same("bits of the root of one below 0", trial.floats.bits(4, 0), 0);
    }

    /** -4 and 4 are such as would do if bits were cut off a shift by 16 k. */
    private static void noSuchBits() {
        for (int k : new int[] {-1, 4, -4, 5, 8, 16, 1 << 28, Integer.MIN_VALUE, Integer.MAX_VALUE}) {
            Trial trial = new Trial(64);
            trial.put(0, "+18446744073709551615p0");
            trial.put(1, "-9223372036854775807p-163s");
            due.same("bits(0, " + k + ")", trial.floats.bits(0, k), 0);
            due.same("bits(1, " + k + ")", trial.floats.bits(1, k), 0);
            refusal.answers("bits(0, " + k + ")", 0, f -> f.bits(0, k));
            refusal.answers("bits(8, " + k + ")", 0, f -> f.bits(8, k));
        }
    }

    private static void noSlot() {
        for (int none : Refusal.NO_SLOTS) {
            Trial trial = new Trial(64);
            for (int x = 0; x < 7; x++) {
                trial.put(x, "+18446744073709551615p0");
            }
            for (int k = 0; k < 4; k++) {
                int part = k;
                due.same("bits(" + none + ", " + k + ")", trial.floats.bits(none, k), 0);
                refusal.answers("bits(" + none + ", " + k + ")", 0, f -> f.bits(none, part));
            }
        }
    }
}
