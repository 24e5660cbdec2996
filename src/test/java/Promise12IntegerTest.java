public final class Promise12IntegerTest {
    private static final int MOST = 2147483647, LEAST = -2147483648;
    private static final Due due = new Due();
    private static final Refusal refusal = new Refusal(due);

    public static void main(String[] args) {
        due.sentence("x as an int", Promise12IntegerTest::ints);
        due.sentence("cut towards 0", Promise12IntegerTest::cut);
        due.sentence("2147483647 if it is too great", Promise12IntegerTest::tooGreat);
        due.sentence("-2147483648 if too small", Promise12IntegerTest::tooSmall);
        due.sentence("0 if it is not a number", Promise12IntegerTest::notANumber);
        due.sentence("or there is no such slot", Promise12IntegerTest::noSlot);
        due.sentence("No flags", Promise12IntegerTest::noFlags);
        due.end();
    }

    private static void is(int precision, String x, int want) {
        for (int mode = 0; mode < 5; mode++) {
            Trial trial = new Trial(precision);
            trial.put(3, x);
            trial.floats.mode(mode);
            due.same("integer of " + x + " at " + precision + " in mode " + mode, trial.floats.integer(3), want);
            due.same("flags of integer of " + x, trial.floats.flags(), 0);
        }
    }

    private static void ints() {
        is(24, "+0", 0);
        is(24, "-0", 0);
        is(24, "+1p0", 1);
        is(24, "-1p0", -1);
        is(24, "+5p0", 5);
        is(24, "-5p0", -5);
        is(24, "+16777215p0", 16777215);
        is(24, "-16777215p7", -2147483520);
        is(2, "+3p29", 1610612736);
        is(2, "-3p29", -1610612736);
        is(2, "+1p30", 1073741824);
        is(31, "+2147483647p0", MOST);
        is(64, "+2147483647p0", MOST);
        is(64, "+1073741823p1", MOST - 1);
        is(32, "-2147483647p0", LEAST + 1);
        is(64, "-1p31", LEAST);
        is(2, "-1p31", LEAST);
        for (int e = 0; e < 31; e++) {
            is(2, "+1p" + e, 1 << e);
            is(64, "-1p" + e, -(1 << e));
        }
    }

    private static void cut() {
        is(24, "-7p-2", -1);
        is(24, "+3p-2", 0);
        is(24, "+23p-3", 2);
        is(24, "-23p-3", -2);
        is(24, "+1p-1", 0);
        is(24, "-1p-1", 0);
        is(24, "-16777215p-24", 0);
        is(24, "+16777215p-24", 0);
        is(24, "+1p-100", 0);
        is(24, "-1p-123s", 0);
        is(64, "-18446744073709551615p-63", -1);
        is(64, "+9223372030412324863p-32", MOST - 1);
        is(64, "+18446744073709551615p-33", MOST);
        is(64, "-18446744073709551615p-33", LEAST + 1);
        // -2^31 and a fraction is cut to what is still an int.
        is(64, "-4294967297p-1", LEAST);
    }

    private static void tooGreat() {
        is(64, "+1p31", MOST);
        is(64, "+2147483649p0", MOST);
        is(64, "+18446744073709551615p-32", MOST);
        is(64, "+1p32", MOST);
        is(64, "+4294967297p0", MOST);
        is(64, "+1p63", MOST);
        is(64, "+1p64", MOST);
        is(64, "+1p100", MOST);
        is(64, "+18446744073709551615p37", MOST);
        is(2, "+1p31", MOST);
        is(2, "+3p99", MOST);
        is(11, "+inf", MOST);
    }

    private static void tooSmall() {
        is(64, "-2147483649p0", LEAST);
        is(64, "-18446744073709551615p-32", LEAST);
        is(64, "-1p32", LEAST);
        is(64, "-4294967297p0", LEAST);
        is(64, "-1p63", LEAST);
        is(64, "-1p64", LEAST);
        is(64, "-18446744073709551615p37", LEAST);
        is(2, "-3p30", LEAST);
        is(2, "-3p31", LEAST);
        is(11, "-inf", LEAST);
    }

    private static void notANumber() {
        is(2, "not", 0);
        is(64, "not", 0);
    }

    private static void noSlot() {
        for (int none : Refusal.NO_SLOTS) {
            refusal.answers("integer(" + none + ")", 0, f -> f.integer(none));
            Trial trial = new Trial(24);
            for (int x = 0; x < 8; x++) {
                trial.floats.load(x, 5, 0);
            }
            due.same("integer(" + none + ") beside slots of 5", trial.floats.integer(none), 0);
        }
    }

    private static void noFlags() {
        int[] want = {3, 0, 0, 0, MOST, LEAST, 0, 0};
        for (int x = 0; x < 8; x++) {
            int slot = x;
            refusal.answers("integer(" + x + ")", want[x], f -> f.integer(slot));
        }
    }
}
