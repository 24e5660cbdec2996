public final class Promise14NegativeTest {
    private static final Due due = new Due();

    public static void main(String[] args) {
        String[] minus = {"-0", "-inf", "-1p0", "-1p-123s", "-16777215p77"};
        String[] plus = {"+0", "+inf", "+1p0", "+1p-123s", "+16777215p77", "not"};
        for (String x : minus) {
            is(x, true);
        }
        for (String x : plus) {
            is(x, false);
        }
        notANumber();
        Trial full = Trial.full(24);
        for (int none : new int[] {-1, 8, Integer.MIN_VALUE, Integer.MAX_VALUE}) {
            due.no("negative(" + none + ")", full.floats.negative(none));
        }
        for (int x = 0; x < 8; x++) {
            due.same("negative(" + x + ")", full.floats.negative(x), x == 1 || x == 3 || x == 5);
        }
        due.same("negative changes nothing", full.state(), Trial.full(24).state());
        due.end();
    }

    private static void is(String x, boolean want) {
        Trial trial = new Trial(24);
        trial.put(2, x);
        due.same("negative of " + x, trial.floats.negative(2), want);
    }

    /** Whatever was there before and however it comes about. */
    private static void notANumber() {
        Trial trial = new Trial(24);
        trial.put(0, "-5p0");
        trial.put(1, "-inf");
        trial.floats.special(2, 2, true);
        due.no("special, with a minus", trial.floats.negative(2));
        trial.floats.root(0, 3);
        due.no("root of -5", trial.floats.negative(3));
        trial.floats.calculate(1, 1, 1, 4);
        due.no("-inf - -inf", trial.floats.negative(4));
        trial.floats.calculate(0, 0, 2, 0);
        due.no("-5 + not, over -5", trial.floats.negative(0));
        trial.floats.scale(2, 3, 1);
        due.no("not, scaled over -inf", trial.floats.negative(1));
    }
}
