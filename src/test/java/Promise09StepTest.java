public final class Promise09StepTest {
    private static final Due due = new Due();

    public static void main(String[] args) {
        everyFloatOfTwoBits();
        ordinary();
        edges();
        sameSlots();
        refused();
        due.end();
    }

    /** In every mode, since a step does not look at it, and without a flag. */
    private static void step(int precision, String x, boolean up, String want) {
        for (int mode = 0; mode < 5; mode++) {
            String what = "step " + (up ? "up" : "down") + " from " + x + " at " + precision + " in mode " + mode;
            due.same(what, Trial.stepped(precision, mode, x, up), want + " 0");
        }
    }

    /** At 2 bits: 2^-101, then 2 and 3 times each power of 2 from 2^-101 on. */
    private static void everyFloatOfTwoBits() {
        String before = "0";
        String at = "1p-101s";
        for (int e = -100; e <= 101; e++) {
            String even = e > 100 ? "inf" : "1p" + e;
            String odd = e > 100 ? "inf" : "3p" + (e - 1);
            chain(before, at, even);
            chain(at, even, odd);
            before = even;
            at = odd;
        }
    }

    private static void chain(String below, String at, String above) {
        step(2, "+" + at, true, "+" + above);
        step(2, "-" + at, false, "-" + above);
        if (!below.equals(at)) {
            step(2, "+" + at, false, "+" + below);
            step(2, "-" + at, true, "-" + below);
        }
    }

    private static void ordinary() {
        step(24, "+1p0", true, "+8388609p-23");
        step(24, "+1p0", false, "+16777215p-24");
        step(24, "-1p0", true, "-16777215p-24");
        step(24, "-1p0", false, "-8388609p-23");
        step(64, "+1p0", true, "+9223372036854775809p-63");
        step(64, "+18446744073709551615p0", true, "+1p64");
        step(64, "-1p64", true, "-18446744073709551615p0");
        step(64, "+9223372036854775807p0", true, "+18446744073709551615p-1");
    }

    private static void edges() {
        for (String zero : new String[] {"+0", "-0"}) {
            step(24, zero, true, "+1p-123s");
            step(24, zero, false, "-1p-123s");
            step(64, zero, true, "+1p-163s");
            step(64, zero, false, "-1p-163s");
        }
        step(24, "+1p-123s", false, "+0");
        step(24, "-1p-123s", true, "-0");
        step(24, "+8388607p-123s", true, "+1p-100");
        step(24, "+1p-100", false, "+8388607p-123s");
        step(24, "-1p-100", true, "-8388607p-123s");
        step(64, "-1p-100", true, "-9223372036854775807p-163s");
        step(24, "+16777215p77", true, "+inf");
        step(24, "-16777215p77", false, "-inf");
        step(64, "+18446744073709551615p37", true, "+inf");
        step(24, "+inf", true, "+inf");
        step(24, "-inf", false, "-inf");
        // The next float below what is infinite is the greatest finite one.
        step(24, "+inf", false, "+16777215p77");
        step(64, "-inf", true, "-18446744073709551615p37");
        step(24, "not", true, "not");
        step(24, "not", false, "not");
    }

    private static void sameSlots() {
        Trial trial = new Trial(3);
        trial.floats.load(1, 1, 0);
        due.yes("step in place", trial.floats.step(1, true, 1));
        due.yes("step into another", trial.floats.step(1, true, 7));
        due.same("steps from 1", trial.showAll(), "+0 +5p-2 +0 +0 +0 +0 +0 +3p-1");
        trial.floats.load(0, 1, 101);
        trial.floats.step(0, true, 2);
        due.same("flags stay over a step", trial.floats.flags(), 5);
    }

    private static void refused() {
        String before = Trial.full(24).state();
        int[][] wrong = {{-1, 0}, {8, 0}, {1, -1}, {1, 8}, {Integer.MIN_VALUE, 0}, {1, Integer.MAX_VALUE}};
        for (int[] w : wrong) {
            Trial trial = Trial.full(24);
            due.no("step(" + w[0] + ", .., " + w[1] + ")", trial.floats.step(w[0], true, w[1]));
            due.no("step(" + w[0] + ", .., " + w[1] + ")", trial.floats.step(w[0], false, w[1]));
            due.same("after a refused step", trial.state(), before);
        }
    }
}
