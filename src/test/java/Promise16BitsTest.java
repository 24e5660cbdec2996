public final class Promise16BitsTest {
    private static final Due due = new Due();

    public static void main(String[] args) {
        // 0x923456789ABCDEF1 and 0x8001C003F00F8AF1
        is(64, "+10535140504318566129p0", 0xDEF1, 0x9ABC, 0x5678, 0x9234);
        is(64, "-10535140504318566129p-90", 0xDEF1, 0x9ABC, 0x5678, 0x9234);
        is(64, "+9223864634976471793p37", 0x8AF1, 0xF00F, 0xC003, 0x8001);
        is(64, "+18446744073709551615p0", 0xFFFF, 0xFFFF, 0xFFFF, 0xFFFF);
        is(64, "-1p5", 0, 0, 0, 0x8000);
        is(64, "+1p-163s", 1, 0, 0, 0);
        is(64, "+9223372036854775807p-163s", 0xFFFF, 0xFFFF, 0xFFFF, 0x7FFF);
        is(49, "+1p0", 0, 0, 0, 1);
        is(48, "+1p0", 0, 0, 0x8000, 0);
        is(33, "-1p0", 0, 0, 1, 0);
        is(32, "-1p0", 0, 0x8000, 0, 0);
        is(24, "+5p0", 0, 0xA0, 0, 0);
        is(17, "+131071p0", 0xFFFF, 1, 0, 0);
        is(16, "+65535p0", 0xFFFF, 0, 0, 0);
        is(5, "-3p-104s", 3, 0, 0, 0);
        is(2, "+3p99", 3, 0, 0, 0);
        for (String other : new String[] {"+0", "-0", "+inf", "-inf", "not"}) {
            is(64, other, 0, 0, 0, 0);
        }
        overOlderBits();
        notThere();
        due.end();
    }

    private static void is(int precision, String x, int... want) {
        Trial trial = new Trial(precision);
        trial.put(4, x);
        for (int k = 0; k < 4; k++) {
            due.same("bits " + k + " of " + x + " at " + precision, trial.floats.bits(4, k), want[k]);
        }
    }

    /** What is not finite shows no bits of what was there before. */
    private static void overOlderBits() {
        for (int what = 0; what < 3; what++) {
            Trial trial = new Trial(64);
            trial.put(4, "+18446744073709551615p0");
            trial.floats.special(4, what, true);
            for (int k = 0; k < 4; k++) {
                due.same("bits after special " + what, trial.floats.bits(4, k), 0);
            }
        }
    }

    private static void notThere() {
        int[] none = {-1, 8, Integer.MIN_VALUE, Integer.MAX_VALUE};
        int[] noPlace = {-1, 4, 5, 16, Integer.MIN_VALUE, Integer.MAX_VALUE};
        Trial trial = new Trial(64);
        for (int x = 0; x < 7; x++) {
            trial.put(x, "+18446744073709551615p0");
        }
        for (int k : noPlace) {
            due.same("bits(0, " + k + ")", trial.floats.bits(0, k), 0);
        }
        for (int x : none) {
            for (int k = 0; k < 4; k++) {
                due.same("bits(" + x + ", " + k + ")", trial.floats.bits(x, k), 0);
            }
        }
        due.same("flags of bits", trial.floats.flags(), 0);
    }
}
