public final class Promise13KindTest {
    private static final Due due = new Due();
    private static final Refusal refusal = new Refusal(due);

    public static void main(String[] args) {
        due.sentence("ZERO = 0, SUBNORMAL = 1, NORMAL = 2, INFINITE = 3, NOT = 4", Promise13KindTest::constants);
        due.sentence("What a float is", Promise13KindTest::everyPrecision);
        due.sentence("What a float is, and nothing changes", Promise13KindTest::changesNothing);
        due.sentence("-1 if there is no such slot", Promise13KindTest::noSlot);
        due.end();
    }

    private static void constants() {
        due.same("ZERO", LimbFloats.ZERO, 0);
        due.same("SUBNORMAL", LimbFloats.SUBNORMAL, 1);
        due.same("NORMAL", LimbFloats.NORMAL, 2);
        due.same("INFINITE", LimbFloats.INFINITE, 3);
        due.same("NOT", LimbFloats.NOT, 4);
    }

    private static void everyPrecision() {
        for (int precision = 2; precision <= 64; precision++) {
            kinds(precision);
        }
    }

    private static void is(Trial trial, int slot, int want) {
        due.same("kind at " + trial.precision, trial.floats.kind(slot), want);
    }

    private static void kinds(int precision) {
        Trial trial = new Trial(precision);
        is(trial, 0, 0);
        trial.floats.special(0, 0, true);
        is(trial, 0, 0);
        trial.floats.step(0, false, 1);
        is(trial, 1, 1);
        trial.floats.load(2, -1, -100);
        is(trial, 2, 2);
        trial.floats.step(2, true, 3);
        is(trial, 3, 1);
        trial.floats.special(4, 1, true);
        is(trial, 4, 3);
        trial.floats.root(4, 6);
        is(trial, 6, 4);
        trial.floats.load(7, 1, 100);
        is(trial, 7, 2);
        trial.floats.load(7, 1, 101);
        is(trial, 7, 3);
        trial.floats.mode(1);
        trial.floats.load(7, 1, 101);
        is(trial, 7, 2);
        trial.floats.load(7, 1, -300);
        is(trial, 7, 0);
    }

    private static void changesNothing() {
        int[] want = {2, 2, 0, 0, 3, 3, 4, 1};
        for (int x = 0; x < 8; x++) {
            int slot = x;
            refusal.answers("kind(" + x + ")", want[x], f -> f.kind(slot));
        }
    }

    private static void noSlot() {
        for (int none : Refusal.NO_SLOTS) {
            refusal.answers("kind(" + none + ")", -1, f -> f.kind(none));
        }
    }
}
