public final class Promise14NegativeTest {
    private static final Due due = new Due();
    private static final Refusal refusal = new Refusal(due);

    public static void main(String[] args) {
        due.sentence("Whether its sign is minus", Promise14NegativeTest::signs);
        due.sentence("Whether its sign is minus, and nothing changes", Promise14NegativeTest::changesNothing);
        due.sentence("(false for what is not a number", Promise14NegativeTest::notANumber);
        due.sentence("or no such slot)", Promise14NegativeTest::noSlot);
        due.end();
    }

    private static void signs() {
        for (String x : new String[] {"0", "inf", "1p0", "1p-100", "1p-123s", "16777215p77"}) {
            is("-" + x, true);
            is("+" + x, false);
        }
    }

    private static void is(String x, boolean want) {
        Trial trial = new Trial(24);
        trial.put(2, x);
        due.same("negative of " + x, trial.floats.negative(2), want);
    }

    private static void changesNothing() {
        for (int x = 0; x < 8; x++) {
            int slot = x;
            refusal.answers("negative(" + x + ")", x == 1 || x == 3 || x == 5 || x == 7, f -> f.negative(slot));
        }
    }

    private static void notANumber() {
        isNot("special, with a minus", f -> f.special(6, 2, true));
        isNot("root of -5", f -> f.root(0, 6));
        isNot("-inf - -inf", f -> f.calculate(1, 1, 1, 6));
        isNot("-5 + not", f -> f.calculate(0, 0, 2, 6));
        isNot("the least of -inf and not", f -> f.calculate(5, 1, 2, 6));
        isNot("-5 rem -0", f -> f.calculate(4, 0, 3, 6));
        isNot("-0 * -inf + -5", f -> f.fuse(3, 1, 0, 6));
        isNot("-5 * -5 + not", f -> f.fuse(0, 0, 2, 6));
        isNot("root of not", f -> f.root(2, 6));
        isNot("whole of not", f -> f.whole(2, 6));
        isNot("below not", f -> f.step(2, false, 6));
        isNot("not, scaled", f -> f.scale(2, 3, 6));
    }

    /** Over a float with a minus. */
    private static void isNot(String what, Trial.Act act) {
        Trial trial = Trial.with(24, 3, "-5p0", "-inf", "not", "-0", "-0", "-0", "-7p0");
        due.yes("before " + what, trial.floats.negative(6));
        act.on(trial.floats);
        due.same("kind of " + what, trial.floats.kind(6), 4);
        due.no(what, trial.floats.negative(6));
    }

    private static void noSlot() {
        for (int none : Refusal.NO_SLOTS) {
            refusal.answers("negative(" + none + ")", false, f -> f.negative(none));
            Trial trial = new Trial(24);
            for (int x = 0; x < 8; x++) {
                trial.floats.load(x, -5, 0);
            }
            due.no("negative(" + none + ") beside slots of -5", trial.floats.negative(none));
        }
    }
}
