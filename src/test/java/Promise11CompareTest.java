public final class Promise11CompareTest {
    private static final String[] RISING = {"-inf", "-18446744073709551615p37", "-1p1", "-9223372036854775809p-63",
        "-1p0", "-1p-100", "-9223372036854775807p-163s", "-1p-163s", "+0", "+1p-163s", "+1p-162s",
        "+9223372036854775807p-163s", "+1p-100", "+1p0", "+9223372036854775809p-63", "+18446744073709551615p-63",
        "+1p1", "+3p0", "+1p100", "+18446744073709551615p37", "+inf"};
    private static final Due due = new Due();
    private static final Refusal refusal = new Refusal(due);

    public static void main(String[] args) {
        due.sentence("-1 if less", Promise11CompareTest::less);
        due.sentence("0 if equal", Promise11CompareTest::equal);
        due.sentence("(zeros are)", Promise11CompareTest::zeros);
        due.sentence("1 if greater", Promise11CompareTest::greater);
        due.sentence("2 if one is not a number", Promise11CompareTest::notANumber);
        due.sentence("-2 if there is no such slot", Promise11CompareTest::noSlot);
        due.sentence("Float x compared with y, and nothing else", Promise11CompareTest::changesNothing);
        due.end();
    }

    private static void compare(String x, String y, int want) {
        due.same("compare " + x + " with " + y, Trial.compared(64, x, y), want);
    }

    private static void less() {
        for (int i = 0; i < RISING.length; i++) {
            for (int j = i + 1; j < RISING.length; j++) {
                compare(RISING[i], RISING[j], -1);
            }
        }
        compare("-1p-163s", "-0", -1);
        compare("-0", "+1p-163s", -1);
        compare("-inf", "-0", -1);
        compare("-0", "+inf", -1);
    }

    private static void equal() {
        for (String x : RISING) {
            compare(x, x, 0);
        }
        Trial trial = Trial.ofEveryKind(24, 0, 0);
        for (int x = 0; x < 8; x++) {
            due.same("slot " + x + " with itself", trial.floats.compare(x, x), x == 6 ? 2 : 0);
        }
    }

    private static void zeros() {
        compare("+0", "-0", 0);
        compare("-0", "+0", 0);
        compare("-0", "-0", 0);
        compare("+0", "+0", 0);
    }

    private static void greater() {
        for (int i = 0; i < RISING.length; i++) {
            for (int j = 0; j < i; j++) {
                compare(RISING[i], RISING[j], 1);
            }
        }
        compare("-0", "-1p-163s", 1);
        compare("+1p-163s", "-0", 1);
    }

    private static void notANumber() {
        compare("not", "not", 2);
        compare("not", "-0", 2);
        compare("-0", "not", 2);
        for (String other : RISING) {
            compare("not", other, 2);
            compare(other, "not", 2);
        }
    }

    /** Slot 6, which is not a number, does not change that. */
    private static void noSlot() {
        for (int none : Refusal.NO_SLOTS) {
            for (int slot = 0; slot < 8; slot++) {
                int s = slot;
                refusal.answers("compare(" + none + ", " + slot + ")", -2, f -> f.compare(none, s));
                refusal.answers("compare(" + slot + ", " + none + ")", -2, f -> f.compare(s, none));
            }
            refusal.answers("compare(" + none + ", " + none + ")", -2, f -> f.compare(none, none));
        }
    }

    private static void changesNothing() {
        refusal.answers("compare(0, 1)", 1, f -> f.compare(0, 1));
        refusal.answers("compare(5, 0)", -1, f -> f.compare(5, 0));
        refusal.answers("compare(2, 3)", 0, f -> f.compare(2, 3));
        refusal.answers("compare(6, 4)", 2, f -> f.compare(6, 4));
        refusal.answers("compare(7, 2)", -1, f -> f.compare(7, 2));
    }
}
