public final class Promise12IntegerTest {
    private static final int MOST = 2147483647, LEAST = -2147483648;
    private static final Due due = new Due();

    public static void main(String[] args) {
        is(24, "+5p0", 5);
        is(24, "-5p0", -5);
        is(24, "+1p0", 1);
        is(24, "-7p-2", -1);
        is(24, "+3p-2", 0);
        is(24, "+23p-3", 2);
        is(24, "-23p-3", -2);
        is(24, "+1p-1", 0);
        is(24, "-16777215p-24", 0);
        is(24, "+1p-100", 0);
        is(24, "-1p-123s", 0);
        is(24, "+16777215p0", 16777215);
        is(24, "-16777215p7", -2147483520);
        is(2, "+3p29", 1610612736);
        is(2, "-3p29", -1610612736);
        is(2, "+1p30", 1073741824);
        edges();
        specials();
        noFlags();
        noSlot();
        due.end();
    }

    private static void is(int precision, String x, int want) {
        for (int mode = 0; mode < 5; mode++) {
            Trial trial = new Trial(precision);
            trial.put(3, x);
            trial.floats.mode(mode);
            due.same("integer of " + x + " at " + precision + " in mode " + mode, trial.floats.integer(3), want);
        }
    }

    private static void edges() {
        is(64, "+2147483647p0", MOST);
        is(64, "+1073741823p1", MOST - 1);
        is(64, "+18446744073709551615p-33", MOST);
        is(64, "+9223372030412324863p-32", MOST - 1);
        is(64, "+1p31", MOST);
        is(64, "+18446744073709551615p-32", MOST);
        is(64, "+1p100", MOST);
        is(64, "+18446744073709551615p37", MOST);
        is(64, "-2147483647p0", LEAST + 1);
        is(64, "-18446744073709551615p-33", LEAST + 1);
        is(64, "-1p31", LEAST);
        is(64, "-18446744073709551615p-32", LEAST);
        is(64, "-2147483649p0", LEAST);
        is(64, "-1p32", LEAST);
        is(64, "-1p64", LEAST);
        is(2, "+1p31", MOST);
        is(2, "-3p31", LEAST);
        is(31, "+2147483647p0", MOST);
        is(32, "-2147483647p0", LEAST + 1);
    }

    private static void specials() {
        is(11, "+0", 0);
        is(11, "-0", 0);
        is(11, "+inf", MOST);
        is(11, "-inf", LEAST);
        is(11, "not", 0);
    }

    private static void noFlags() {
        Trial trial = new Trial(24);
        String[] values = {"+23p-3", "-1p-123s", "+1p100", "-1p31", "+inf", "not", "-0"};
        for (int i = 0; i < values.length; i++) {
            trial.put(i, values[i]);
        }
        String before = trial.showAll();
        for (int x = 0; x < 8; x++) {
            trial.floats.integer(x);
        }
        due.same("flags of integer", trial.floats.flags(), 0);
        due.same("slots after integer", trial.showAll(), before);
    }

    private static void noSlot() {
        Trial trial = new Trial(24);
        for (int x = 0; x < 8; x++) {
            trial.floats.load(x, 5, 0);
        }
        for (int none : new int[] {-1, 8, Integer.MIN_VALUE, Integer.MAX_VALUE}) {
            due.same("integer(" + none + ")", trial.floats.integer(none), 0);
        }
    }
}
