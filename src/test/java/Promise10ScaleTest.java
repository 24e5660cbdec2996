public final class Promise10ScaleTest {
    private static final Due due = new Due();

    public static void main(String[] args) {
        exact();
        rounding();
        overflow();
        specials();
        sameSlots();
        refused();
        due.end();
    }

    private static void inModes(int precision, String x, int k, String... want) {
        for (int mode = 0; mode < 5; mode++) {
            due.same(x + " * 2^" + k + " at " + precision + " in mode " + mode, Trial.scaled(precision, mode, x, k), want[mode]);
        }
    }

    private static void inAllModes(int precision, String x, int k, String want) {
        inModes(precision, x, k, want, want, want, want, want);
    }

    private static void exact() {
        inAllModes(24, "+3p0", 0, "+3p0 0");
        inAllModes(24, "+3p0", 5, "+3p5 0");
        inAllModes(24, "-3p0", -5, "-3p-5 0");
        inAllModes(24, "+1p-100", 200, "+1p100 0");
        inAllModes(24, "-1p100", -200, "-1p-100 0");
        inAllModes(24, "+1p-123s", 223, "+1p100 0");
        inAllModes(64, "+1p-163s", 263, "+1p100 0");
        inAllModes(64, "+1p100", -263, "+1p-163s 0");
        inAllModes(64, "+18446744073709551615p37", -100, "+18446744073709551615p-63 0");
        inAllModes(5, "+3p-104s", 1, "+3p-103s 0");
        inAllModes(5, "+15p-104s", 1, "+15p-103 0");
    }

    private static void rounding() {
        inModes(5, "+3p-104s", -1, "+1p-103s 3", "+1p-104s 3", "+1p-103s 3", "+1p-104s 3", "+1p-103s 3");
        inModes(5, "-1p-104s", -1, "-0 3", "-0 3", "-0 3", "-1p-104s 3", "-1p-104s 3");
        inModes(5, "+3p-104s", -2, "+1p-104s 3", "+0 3", "+1p-104s 3", "+0 3", "+1p-104s 3");
        inModes(5, "+31p-104", -1, "+1p-100 3", "+15p-104s 3", "+1p-100 3", "+15p-104s 3", "+1p-100 3");
        inModes(5, "-31p96", -400, "-0 3", "-0 3", "-0 3", "-1p-104s 3", "-0 3");
        inModes(64, "+1p-163s", -400, "+0 3", "+0 3", "+1p-163s 3", "+0 3", "+0 3");
        inModes(64, "+18446744073709551615p-100", -64, "+1p-100 3", "+9223372036854775807p-163s 3", "+1p-100 3",
            "+9223372036854775807p-163s 3", "+1p-100 3");
    }

    private static void overflow() {
        inModes(5, "+1p100", 1, "+inf 5", "+31p96 5", "+inf 5", "+31p96 5", "+inf 5");
        inModes(5, "-1p0", 101, "-inf 5", "-31p96 5", "-31p96 5", "-inf 5", "-inf 5");
        inModes(5, "+31p96", 400, "+inf 5", "+31p96 5", "+inf 5", "+31p96 5", "+inf 5");
        inModes(64, "-18446744073709551615p37", 400, "-inf 5", "-18446744073709551615p37 5",
            "-18446744073709551615p37 5", "-inf 5", "-inf 5");
        inModes(5, "+1p-104s", 400, "+inf 5", "+31p96 5", "+inf 5", "+31p96 5", "+inf 5");
    }

    private static void specials() {
        for (int k = -400; k <= 400; k += 100) {
            inAllModes(11, "+0", k, "+0 0");
            inAllModes(11, "-0", k, "-0 0");
            inAllModes(11, "+inf", k, "+inf 0");
            inAllModes(11, "-inf", k, "-inf 0");
            inAllModes(11, "not", k, "not 0");
        }
    }

    private static void sameSlots() {
        Trial trial = new Trial(24);
        trial.floats.load(5, -3, 0);
        due.yes("scale in place", trial.floats.scale(5, 4, 5));
        due.yes("scale into another", trial.floats.scale(5, -400, 6));
        due.yes("scale into another", trial.floats.scale(5, 400, 7));
        due.same("-3 scaled", trial.showAll(), "+0 +0 +0 +0 +0 -3p4 -0 -inf");
    }

    private static void refused() {
        String before = Trial.full(24).state();
        int[][] wrong = {{-1, 0, 0}, {8, 0, 0}, {1, 0, -1}, {1, 0, 8}, {0, 401, 1}, {0, -401, 1}, {2, 401, 1}, {6, -401, 1},
            {0, Integer.MAX_VALUE, 1}, {0, Integer.MIN_VALUE, 1}, {Integer.MIN_VALUE, 0, 0}, {1, 0, Integer.MAX_VALUE}};
        for (int[] w : wrong) {
            Trial trial = Trial.full(24);
            String call = "scale(" + w[0] + ", " + w[1] + ", " + w[2] + ")";
            due.no(call, trial.floats.scale(w[0], w[1], w[2]));
            due.same("after " + call, trial.state(), before);
        }
    }
}
