/** A call that is accepted changes the slot that it names, and neither another one nor the mode. */
final class Reach {
    interface Call {
        boolean into(LimbFloats floats, int slot);
    }

    private final Due due;

    Reach(Due due) {
        this.due = due;
    }

    void onlyInto(String name, String want, Call call) {
        for (int mode = 0; mode < 5; mode++) {
            for (int into = 0; into < 8; into++) {
                onlyInto(name + " into " + into, want, call, mode, into);
            }
        }
    }

    private void onlyInto(String name, String want, Call call, int mode, int into) {
        Trial trial = Trial.ofEveryKind(24, mode, 0);
        String[] slots = trial.showAll().split(" ");
        slots[into] = want;
        due.yes(name, call.into(trial.floats, into));
        due.same("slots after " + name, trial.showAll(), String.join(" ", slots));
        due.same("mode after " + name, Refusal.roundings(trial), Refusal.roundings(24, mode));
    }
}
