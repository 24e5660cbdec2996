public final class Promise15ExponentTest {
    private static final Due due = new Due();

    public static void main(String[] args) {
        for (int e = -100; e <= 100; e++) {
            is(2, "+1p" + e, e);
            is(2, "-3p" + (e - 1), e);
            is(64, "-1p" + e, e);
            is(64, "+18446744073709551615p" + (e - 63), e);
        }
        is(24, "+5p0", 2);
        is(24, "+1p-123s", -100);
        is(24, "-8388607p-123s", -100);
        is(64, "+1p-163s", -100);
        is(2, "+1p-101s", -100);
        for (String other : new String[] {"+0", "-0", "+inf", "-inf", "not"}) {
            is(24, other, -1000);
        }
        Trial full = Trial.full(24);
        for (int none : new int[] {-1, 8, Integer.MIN_VALUE, Integer.MAX_VALUE}) {
            due.same("exponent(" + none + ")", full.floats.exponent(none), -1000);
        }
        int[] want = {1, -2, -1000, -1000, -1000, -1000, -1000, -100};
        for (int x = 0; x < 8; x++) {
            due.same("exponent(" + x + ")", full.floats.exponent(x), want[x]);
        }
        due.same("exponent changes nothing", full.state(), Trial.full(24).state());
        due.end();
    }

    private static void is(int precision, String x, int want) {
        Trial trial = new Trial(precision);
        trial.put(6, x);
        due.same("exponent of " + x + " at " + precision, trial.floats.exponent(6), want);
    }
}
