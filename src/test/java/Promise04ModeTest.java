public final class Promise04ModeTest {
    private static final Due due = new Due();
    // 21 and 23 are ties at 4 bits, 81 is near 80 and 87 near 88; all of them of either sign.
    private static final int[] NUMBERS = {21, 23, 81, 87, -21, -23, -81, -87};
    private static final String[] ROUNDED = {
        "+5p2 +3p3 +5p4 +11p3 -5p2 -3p3 -5p4 -11p3",
        "+5p2 +11p1 +5p4 +5p4 -5p2 -11p1 -5p4 -5p4",
        "+11p1 +3p3 +11p3 +11p3 -5p2 -11p1 -5p4 -5p4",
        "+5p2 +11p1 +5p4 +5p4 -11p1 -3p3 -11p3 -11p3",
        "+11p1 +3p3 +5p4 +11p3 -11p1 -3p3 -5p4 -11p3"};

    public static void main(String[] args) {
        Trial trial = new Trial(4);
        for (int mode = 4; mode >= 0; mode--) {
            due.yes("mode(" + mode + ")", trial.floats.mode(mode));
            due.same("rounding in mode " + mode, rounding(trial), ROUNDED[mode]);
        }
        stays();
        refused();
        due.end();
    }

    private static String rounding(Trial trial) {
        for (int slot = 0; slot < 8; slot++) {
            trial.floats.load(slot, NUMBERS[slot], 0);
        }
        return trial.showAll();
    }

    private static void stays() {
        Trial trial = new Trial(4);
        trial.floats.mode(3);
        due.same("flags of mode", trial.floats.flags(), 0);
        trial.floats.special(0, 2, false);
        trial.floats.load(9, 1, 0);
        due.same("mode 3 after other calls", rounding(trial), ROUNDED[3]);
    }

    private static void refused() {
        int[] wrong = {-1, 5, 6, Integer.MAX_VALUE, Integer.MIN_VALUE};
        for (int w : wrong) {
            Trial trial = new Trial(4);
            trial.floats.mode(2);
            due.no("mode(" + w + ")", trial.floats.mode(w));
            due.same("mode 2 after mode(" + w + ")", rounding(trial), ROUNDED[2]);
        }
    }
}
