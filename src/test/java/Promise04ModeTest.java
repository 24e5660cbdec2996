public final class Promise04ModeTest {
    // 21 and 23 are ties at 4 bits, 81 is near 80 and 87 near 88; all of them of either sign.
    private static final int[] NUMBERS = {21, 23, 81, 87, -21, -23, -81, -87};
    private static final String[] ROUNDED = {
        "+5p2 +3p3 +5p4 +11p3 -5p2 -3p3 -5p4 -11p3",
        "+5p2 +11p1 +5p4 +5p4 -5p2 -11p1 -5p4 -5p4",
        "+11p1 +3p3 +11p3 +11p3 -5p2 -11p1 -5p4 -5p4",
        "+5p2 +11p1 +5p4 +5p4 -11p1 -3p3 -11p3 -11p3",
        "+11p1 +3p3 +5p4 +11p3 -11p1 -3p3 -5p4 -11p3"};
    private static final Due due = new Due();
    private static final Refusal refusal = new Refusal(due);

    public static void main(String[] args) {
        due.sentence("Sets the mode 0..4: true", Promise04ModeTest::eachFromEach);
        due.sentence("Sets the mode", Promise04ModeTest::stays);
        due.sentence("Sets the mode, and nothing else", Promise04ModeTest::nothingElse);
        due.sentence("false for others", Promise04ModeTest::others);
        due.end();
    }

    private static void eachFromEach() {
        for (int before = 0; before < 5; before++) {
            for (int mode = 0; mode < 5; mode++) {
                Trial trial = new Trial(4);
                due.yes("mode(" + before + ")", trial.floats.mode(before));
                due.yes("mode(" + mode + ")", trial.floats.mode(mode));
                due.same("rounding in mode " + mode, rounding(trial), ROUNDED[mode]);
                due.same("small ones in mode " + mode, Refusal.roundings(trial), Refusal.roundings(4, mode));
            }
        }
    }

    private static String rounding(Trial trial) {
        for (int slot = 0; slot < 8; slot++) {
            trial.floats.load(slot, NUMBERS[slot], 0);
        }
        return trial.showAll();
    }

    private static void stays() {
        Trial trial = new Trial(4);
        trial.floats.mode(3);
        trial.floats.special(0, 2, false);
        trial.floats.load(9, 1, 0);
        trial.floats.step(1, true, 1);
        trial.floats.root(1, 2);
        trial.floats.whole(2, 3);
        trial.floats.flags();
        due.same("mode 3 after other calls", rounding(trial), ROUNDED[3]);
    }

    private static void nothingElse() {
        for (int mode = 0; mode < 5; mode++) {
            Trial trial = Trial.ofEveryKind(24, 0, 31);
            String before = trial.showEverything();
            trial.floats.mode(mode);
            due.same("slots after mode(" + mode + ")", trial.showEverything(), before);
            due.same("flags after mode(" + mode + ")", trial.floats.flags(), 31);
        }
        due.same("flags of mode", Trial.done(4, 3, f -> f.mode(1)), "+0 0");
    }

    private static void others() {
        for (int mode : new int[] {-1, 5, 6, 8, 256, Integer.MIN_VALUE, Integer.MAX_VALUE}) {
            refusal.refused("mode(" + mode + ")", f -> f.mode(mode));
        }
    }
}
