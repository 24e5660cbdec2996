public final class Promise15ExponentTest {
    private static final Due due = new Due();
    private static final Refusal refusal = new Refusal(due);

    public static void main(String[] args) {
        due.sentence("E of a finite float", Promise15ExponentTest::finite);
        due.sentence("E of a finite float: a subnormal one", Promise15ExponentTest::subnormal);
        due.sentence("E of a finite float, and nothing changes", Promise15ExponentTest::changesNothing);
        due.sentence("-1000 otherwise", Promise15ExponentTest::others);
        due.sentence("-1000 otherwise: no such slot", Promise15ExponentTest::noSlot);
        due.end();
    }

    private static void is(int precision, String x, int want) {
        Trial trial = new Trial(precision);
        trial.put(6, x);
        due.same("exponent of " + x + " at " + precision, trial.floats.exponent(6), want);
    }

    private static void finite() {
        for (int e = -100; e <= 100; e++) {
            is(2, "+1p" + e, e);
            is(2, "-3p" + (e - 1), e);
            is(64, "-1p" + e, e);
            is(64, "+18446744073709551615p" + (e - 63), e);
        }
        is(24, "+5p0", 2);
    }

    private static void subnormal() {
        for (int precision = 2; precision <= 64; precision++) {
            is(precision, "+" + Trial.leastTimes(precision, 1), -100);
            is(precision, "-" + Trial.greatestSubnormal(precision), -100);
        }
    }

    private static void changesNothing() {
        int[] want = {1, -2, -1000, -1000, -1000, -1000, -1000, -100};
        for (int x = 0; x < 8; x++) {
            int slot = x;
            refusal.answers("exponent(" + x + ")", want[x], f -> f.exponent(slot));
        }
    }

    /** Also where a finite float was before. */
    private static void others() {
        for (String other : new String[] {"+0", "-0", "+inf", "-inf", "not"}) {
            is(2, other, -1000);
            is(64, other, -1000);
            Trial trial = new Trial(24);
            trial.put(6, "-5p0");
            trial.put(6, other);
            due.same("exponent of " + other + " over -5", trial.floats.exponent(6), -1000);
        }
    }

    private static void noSlot() {
        for (int none : Refusal.NO_SLOTS) {
            refusal.answers("exponent(" + none + ")", -1000, f -> f.exponent(none));
        }
    }
}
