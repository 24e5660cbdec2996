public final class Promise03SpecialTest {
    private static final Due due = new Due();

    public static void main(String[] args) {
        String[] plus = {"+0", "+inf", "not"};
        String[] minus = {"-0", "-inf", "not"};
        for (int what = 0; what < 3; what++) {
            for (int into = 0; into < 8; into++) {
                becomes(into, what, false, plus[what]);
                becomes(into, what, true, minus[what]);
            }
        }
        refused();
        due.end();
    }

    private static void becomes(int into, int what, boolean negative, String want) {
        Trial trial = new Trial(24);
        for (int slot = 0; slot < 8; slot++) {
            trial.floats.load(slot, -7, 2);
        }
        due.yes("special", trial.floats.special(into, what, negative));
        for (int slot = 0; slot < 8; slot++) {
            due.same("special(" + into + ", " + what + ", " + negative + "), slot " + slot,
                trial.show(slot), slot == into ? want : "-7p2");
        }
        due.same("special sets no flag", trial.floats.flags(), 0);
    }

    private static void refused() {
        String before = Trial.full(11).state();
        int[][] wrong = {{-1, 0}, {8, 1}, {0, -1}, {0, 3}, {1, 4}, {Integer.MAX_VALUE, 2}, {Integer.MIN_VALUE, 2},
            {0, Integer.MAX_VALUE}, {0, Integer.MIN_VALUE}};
        for (int[] w : wrong) {
            Trial trial = Trial.full(11);
            due.no("special(" + w[0] + ", " + w[1] + ")", trial.floats.special(w[0], w[1], true));
            due.same("after a refused special", trial.state(), before);
        }
    }
}
