/**
 * A call that must be refused, on objects of several precisions in every mode and with every flag:
 * all that a caller can see of them is looked at before and after it.
 */
final class Refusal {
    interface Call {
        Object on(LimbFloats floats);
    }

    /** Near the slots, far from them, and such as would be slots if bits were cut off. */
    static final int[] NO_SLOTS = {-1, 8, -8, 16, 256, 65536, Integer.MIN_VALUE, Integer.MAX_VALUE};

    private static final int[] PRECISIONS = {2, 24, 64};
    private static final int[] FLAGS = {0, 1, 3, 5, 8, 16, 31};
    // 2.5, 3.5, 2.25 and 2.75 times the least float, of either sign, in each mode: no two modes agree.
    private static final int[][] HALVES_AND_QUARTERS = {{5, -1}, {7, -1}, {9, -2}, {11, -2}};
    private static final int[][] ABOVE_ZERO = {{2, 4, 2, 3}, {2, 3, 2, 2}, {3, 4, 3, 3}, {2, 3, 2, 2}, {3, 4, 2, 3}};
    private static final int[][] BELOW_ZERO = {{2, 4, 2, 3}, {2, 3, 2, 2}, {2, 3, 2, 2}, {3, 4, 3, 3}, {3, 4, 2, 3}};

    private final Due due;

    Refusal(Due due) {
        this.due = due;
    }

    void refused(String call, Call made) {
        answers(call, false, made);
    }

    /** For the calls that answer something else than false. */
    void answers(String call, Object want, Call made) {
        for (int precision : PRECISIONS) {
            for (int mode = 0; mode < 5; mode++) {
                for (int flags : FLAGS) {
                    changesNothing(precision, mode, flags, call, want, made);
                }
            }
        }
    }

    /** Takes some 300 calls of the object, of the 512 that are promised an answer. */
    private void changesNothing(int precision, int mode, int flags, String call, Object want, Call made) {
        String what = call + " at " + precision + " in mode " + mode + " with flags " + flags;
        Trial trial = Trial.ofEveryKind(precision, mode, flags);
        String before = trial.showEverything();
        due.same(what, made.on(trial.floats), want);
        due.same("slots after " + what, trial.showEverything(), before);
        due.same("flags after " + what, trial.floats.flags(), flags);
        due.same("flags after they were taken after " + what, trial.floats.flags(), 0);
        due.same("mode after " + what, roundings(trial), roundings(precision, mode));
    }

    /** What a mode does to ties and to what lies beside them, as one text; slots 0 to 7 are lost. */
    static String roundings(Trial trial) {
        int least = -100 - trial.precision + 1;
        for (int i = 0; i < 4; i++) {
            int[] number = HALVES_AND_QUARTERS[i];
            trial.floats.load(i, number[0], least + number[1]);
            trial.floats.load(4 + i, -number[0], least + number[1]);
        }
        return trial.showAll();
    }

    static String roundings(int precision, int mode) {
        StringBuilder all = new StringBuilder();
        for (int i = 0; i < 8; i++) {
            int count = i < 4 ? ABOVE_ZERO[mode][i] : BELOW_ZERO[mode][i - 4];
            all.append(i < 4 ? "+" : "-").append(Trial.leastTimes(precision, count)).append(i < 7 ? " " : "");
        }
        return all.toString();
    }
}
