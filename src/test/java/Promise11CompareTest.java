public final class Promise11CompareTest {
    private static final Due due = new Due();
    private static final String[] RISING = {"-inf", "-18446744073709551615p37", "-1p1", "-9223372036854775809p-63",
        "-1p0", "-1p-100", "-9223372036854775807p-163s", "-1p-163s", "+0", "+1p-163s", "+1p-162s",
        "+9223372036854775807p-163s", "+1p-100", "+1p0", "+9223372036854775809p-63", "+18446744073709551615p-63",
        "+1p1", "+3p0", "+1p100", "+18446744073709551615p37", "+inf"};

    public static void main(String[] args) {
        for (int i = 0; i < RISING.length; i++) {
            for (int j = 0; j < RISING.length; j++) {
                compare(RISING[i], RISING[j], Integer.compare(i, j));
            }
        }
        compare("+0", "-0", 0);
        compare("-0", "+0", 0);
        compare("-0", "-0", 0);
        compare("-0", "-1p-163s", 1);
        compare("-0", "+1p-163s", -1);
        for (String other : new String[] {"not", "+0", "-1p0", "+inf", "-inf"}) {
            compare("not", other, 2);
            compare(other, "not", 2);
        }
        changesNothing();
        noSlot();
        due.end();
    }

    private static void compare(String x, String y, int want) {
        due.same("compare " + x + " with " + y, Trial.compared(64, x, y), want);
    }

    private static void changesNothing() {
        String before = Trial.full(24).state();
        Trial trial = Trial.full(24);
        for (int x = 0; x < 8; x++) {
            trial.floats.compare(x, 1);
            trial.floats.compare(x, 6);
            due.same("a slot with itself", trial.floats.compare(x, x), x == 6 ? 2 : 0);
        }
        due.same("after comparing", trial.state(), before);
    }

    private static void noSlot() {
        for (int none : new int[] {-1, 8, Integer.MIN_VALUE, Integer.MAX_VALUE}) {
            Trial trial = Trial.full(24);
            for (int x = 0; x < 8; x++) {
                due.same("compare(" + none + ", " + x + ")", trial.floats.compare(none, x), -2);
                due.same("compare(" + x + ", " + none + ")", trial.floats.compare(x, none), -2);
            }
            due.same("compare(" + none + ", " + none + ")", trial.floats.compare(none, none), -2);
        }
    }
}
