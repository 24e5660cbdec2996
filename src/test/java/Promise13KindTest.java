public final class Promise13KindTest {
    private static final Due due = new Due();

    public static void main(String[] args) {
        due.same("ZERO", LimbFloats.ZERO, 0);
        due.same("SUBNORMAL", LimbFloats.SUBNORMAL, 1);
        due.same("NORMAL", LimbFloats.NORMAL, 2);
        due.same("INFINITE", LimbFloats.INFINITE, 3);
        due.same("NOT", LimbFloats.NOT, 4);
        for (int precision = 2; precision <= 64; precision++) {
            kinds(precision);
        }
        Trial full = Trial.full(24);
        int[] want = {2, 2, 0, 0, 3, 3, 4, 1};
        for (int x = 0; x < 8; x++) {
            due.same("kind(" + x + ")", full.floats.kind(x), want[x]);
        }
        due.same("kind changes nothing", full.state(), Trial.full(24).state());
        for (int none : new int[] {-1, 8, Integer.MIN_VALUE, Integer.MAX_VALUE}) {
            due.same("kind(" + none + ")", full.floats.kind(none), -1);
        }
        due.end();
    }

    private static void is(Trial trial, int slot, int want) {
        due.same("kind at " + trial.precision, trial.floats.kind(slot), want);
    }

    private static void kinds(int precision) {
        Trial trial = new Trial(precision);
        is(trial, 0, LimbFloats.ZERO);
        trial.floats.step(0, false, 1);
        is(trial, 1, LimbFloats.SUBNORMAL);
        trial.floats.load(2, -1, -100);
        is(trial, 2, LimbFloats.NORMAL);
        trial.floats.step(2, true, 3);
        is(trial, 3, LimbFloats.SUBNORMAL);
        trial.floats.special(4, 1, true);
        is(trial, 4, LimbFloats.INFINITE);
        trial.floats.step(4, true, 5);
        is(trial, 5, LimbFloats.NORMAL);
        trial.floats.root(4, 6);
        is(trial, 6, LimbFloats.NOT);
        trial.floats.load(7, 1, 101);
        is(trial, 7, LimbFloats.INFINITE);
        trial.floats.load(7, 1, -300);
        is(trial, 7, LimbFloats.ZERO);
    }
}
