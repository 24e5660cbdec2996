public final class Promise17FlagsTest {
    private static final Due due = new Due();

    public static void main(String[] args) {
        due.sentence("The sum of all flags", Promise17FlagsTest::each);
        due.sentence("The sum of all flags: each counts once", Promise17FlagsTest::sums);
        due.sentence("The sum of all flags: those that come later join", Promise17FlagsTest::joinOthers);
        due.sentence("they are gone then", Promise17FlagsTest::gone);
        due.sentence("FLAGS stay until they are taken", Promise17FlagsTest::stay);
        due.sentence("flags takes the flags, and nothing else", Promise17FlagsTest::nothingElse);
        due.end();
    }

    private static void taken(String what, LimbFloats floats, int want) {
        due.same("flags after " + what, floats.flags(), want);
        due.same("flags after they were taken, " + what, floats.flags(), 0);
    }

    private static void each() {
        LimbFloats floats = new LimbFloats(5);
        taken("nothing", floats, 0);
        floats.load(0, 33, 0);
        taken("33 at 5 bits", floats, 1);
        floats.load(0, 1, -105);
        taken("2^-105", floats, 1 + 2);
        floats.load(0, 1, 101);
        taken("2^101", floats, 1 + 4);
        floats.load(0, 1, 0);
        floats.calculate(3, 0, 1, 2);
        taken("1 / 0", floats, 8);
        floats.calculate(3, 1, 1, 2);
        taken("0 / 0", floats, 16);
        floats.calculate(0, 2, 0, 3);
        taken("not a number + 1", floats, 0);
        floats.load(0, 31, 0);
        taken("31", floats, 0);
    }

    /** A flag that is raised twice counts once. */
    private static void sums() {
        LimbFloats floats = new LimbFloats(5);
        floats.load(0, -1, 0);
        floats.root(0, 2);
        floats.root(0, 2);
        floats.calculate(3, 0, 1, 3);
        floats.calculate(3, 0, 1, 3);
        taken("two roots and two divisions", floats, 24);
        floats.root(0, 2);
        floats.calculate(3, 0, 1, 3);
        floats.load(4, 1, 200);
        floats.load(4, 1, 200);
        floats.load(5, 1, -200);
        floats.load(5, 1, -200);
        taken("all of them", floats, 31);
        floats.load(4, 1, 200);
        floats.load(5, 33, 0);
        taken("an overflow and an inexact result", floats, 5);
    }

    /** Every way to raise a flag leaves those that were there: first INVALID's, then UNDERFLOW's. */
    private static void joinOthers() {
        String[] calls = {"load", "calculate", "fuse", "root", "whole", "scale", "divide by zero", "be invalid"};
        int[] wantFirst = {17, 17, 17, 17, 17, 19, 24, 16};
        int[] wantThen = {3, 3, 3, 3, 3, 3, 11, 19};
        for (int i = 0; i < calls.length; i++) {
            LimbFloats floats = prepared();
            floats.calculate(3, 4, 4, 7);
            raise(floats, i);
            taken("0 / 0 and " + calls[i], floats, wantFirst[i]);
            floats.load(7, 1, -300);
            raise(floats, i);
            taken("an underflow and " + calls[i], floats, wantThen[i]);
        }
    }

    /** 1, 3, 2.5, the least float, and zeros. */
    private static LimbFloats prepared() {
        LimbFloats floats = new LimbFloats(5);
        floats.load(0, 1, 0);
        floats.load(1, 3, 0);
        floats.load(2, 5, -1);
        floats.step(3, true, 3);
        return floats;
    }

    private static void raise(LimbFloats floats, int which) {
        boolean done;
        switch (which) {
            case 0 -> done = floats.load(7, 33, 0);
            case 1 -> done = floats.calculate(3, 0, 1, 7);
            case 2 -> done = floats.fuse(3, 3, 0, 7);
            case 3 -> done = floats.root(1, 7);
            case 4 -> done = floats.whole(2, 7);
            case 5 -> done = floats.scale(3, -1, 7);
            case 6 -> done = floats.calculate(3, 0, 4, 7);
            default -> done = floats.calculate(4, 0, 4, 7);
        }
        due.yes("call " + which, done);
    }

    /** Nothing but flags() takes them, and a result without one leaves them. */
    private static void stay() {
        LimbFloats floats = new LimbFloats(5);
        floats.load(0, 1, -300);
        floats.special(0, 0, false);
        floats.load(1, 3, 0);
        floats.mode(1);
        floats.calculate(0, 1, 1, 2);
        floats.calculate(9, 1, 1, 2);
        floats.fuse(1, 1, 1, 2);
        floats.root(0, 2);
        floats.whole(1, 2);
        floats.step(1, true, 2);
        floats.scale(1, 3, 2);
        floats.compare(0, 1);
        floats.integer(1);
        floats.kind(0);
        floats.negative(0);
        floats.exponent(1);
        floats.bits(1, 0);
        taken("an underflow and all other calls", floats, 3);
    }

    /** And a flag that was taken is raised again like a new one. */
    private static void gone() {
        for (int flags : new int[] {0, 1, 3, 5, 7, 8, 16, 24, 25, 31}) {
            for (int mode = 0; mode < 5; mode++) {
                Trial trial = Trial.ofEveryKind(24, mode, flags);
                due.same("flags", trial.floats.flags(), flags);
                due.same("flags after they were taken", trial.floats.flags(), 0);
                trial.floats.calculate(1, 4, 4, 7);
                due.same("flags raised again", trial.floats.flags(), 16);
                due.same("flags after they were taken again", trial.floats.flags(), 0);
            }
        }
    }

    private static void nothingElse() {
        for (int precision : new int[] {2, 24, 64}) {
            for (int mode = 0; mode < 5; mode++) {
                Trial trial = Trial.ofEveryKind(precision, mode, 31);
                String before = trial.showEverything();
                trial.floats.flags();
                due.same("slots after flags", trial.showEverything(), before);
                due.same("mode after flags", Refusal.roundings(trial), Refusal.roundings(precision, mode));
            }
        }
    }
}
