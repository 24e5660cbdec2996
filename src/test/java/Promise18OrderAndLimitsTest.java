public final class Promise18OrderAndLimitsTest {
    private static final Due due = new Due();

    public static void main(String[] args) {
        refusedCallsChangeNothing();
        stepsFromZero();
        wholeIsInexactAtMost();
        lastsForItsCalls();
        due.end();
    }

    /** Every refusal after one another on one object: flags, mode and floats are as before them. */
    private static void refusedCallsChangeNothing() {
        for (int precision : new int[] {2, 24, 64}) {
            Trial trial = Trial.full(precision);
            LimbFloats f = trial.floats;
            due.no("load, slot", f.load(8, 33, 0));
            due.no("load, e", f.load(0, 33, 301));
            due.no("special, slot", f.special(-1, 1, true));
            due.no("special, what", f.special(0, 3, true));
            due.no("mode", f.mode(5));
            due.no("calculate, op", f.calculate(7, 0, 1, 2));
            due.no("calculate, into, of what would be invalid", f.calculate(0, 4, 5, 8));
            due.no("calculate, into, of what would divide by zero", f.calculate(3, 0, 2, -1));
            due.no("calculate, x", f.calculate(5, 8, 0, 0));
            due.no("fuse, z", f.fuse(0, 1, 8, 0));
            due.no("fuse, into, of what would be invalid", f.fuse(2, 4, 0, 9));
            due.no("root, into, of what would be invalid", f.root(1, 8));
            due.no("root, x", f.root(-1, 1));
            due.no("whole, into, of what would be inexact", f.whole(1, -1));
            due.no("step, into", f.step(0, true, 8));
            due.no("scale, k", f.scale(0, 401, 1));
            due.no("scale, into, of what would overflow", f.scale(0, 400, 8));
            due.same("compare", f.compare(0, 8), -2);
            due.same("integer", f.integer(8), 0);
            due.same("kind", f.kind(8), -1);
            due.no("negative", f.negative(8));
            due.same("exponent", f.exponent(8), -1000);
            due.same("bits", f.bits(8, 0), 0);
            due.same("after refused calls", trial.state(), Trial.full(precision).state());
        }
    }

    private static void stepsFromZero() {
        for (int precision = 2; precision <= 64; precision++) {
            int least = -100 - precision + 1;
            for (String zero : new String[] {"+0", "-0"}) {
                due.same("up from " + zero, Trial.stepped(precision, 3, zero, true), "+1p" + least + "s 0");
                due.same("down from " + zero, Trial.stepped(precision, 2, zero, false), "-1p" + least + "s 0");
            }
        }
    }

    private static void wholeIsInexactAtMost() {
        for (int mode = 0; mode < 5; mode++) {
            for (int precision = 2; precision <= 64; precision++) {
                Trial trial = new Trial(precision);
                trial.floats.mode(mode);
                trial.floats.step(0, true, 0);
                trial.floats.special(1, 1, true);
                trial.floats.step(1, true, 1);
                trial.floats.load(2, 1, 0);
                trial.floats.step(2, false, 2);
                trial.floats.flags();
                trial.floats.whole(0, 3);
                due.same("flags of whole, least float", trial.floats.flags(), 1);
                trial.floats.whole(1, 4);
                due.same("flags of whole, greatest float", trial.floats.flags(), 0);
                trial.floats.whole(2, 5);
                due.same("flags of whole, float below 1", trial.floats.flags(), 1);
                due.same("least float, whole", trial.show(3), mode == 2 ? "+1p0" : "+0");
                due.same("greatest float, whole", trial.show(4), trial.show(1));
                due.same("float below 1, whole", trial.show(5), mode == 1 || mode == 3 ? "+0" : "+1p0");
            }
        }
    }

    /** The 512th call is answered as the first. */
    private static void lastsForItsCalls() {
        LimbFloats floats = new LimbFloats(24);
        floats.load(0, 1, 0);
        floats.load(1, 1, 0);
        for (int i = 2; i < 511; i++) {
            due.yes("call " + i, floats.calculate(0, 0, 1, 0));
        }
        due.same("510 times 1", floats.integer(0), 510);
    }
}
