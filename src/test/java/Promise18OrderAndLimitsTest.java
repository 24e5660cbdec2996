public final class Promise18OrderAndLimitsTest {
    private static final Due due = new Due();
    private static final Refusal refusal = new Refusal(due);

    public static void main(String[] args) {
        due.sentence("A call that is refused, because a number is not as said there, changes nothing",
            Promise18OrderAndLimitsTest::numbers);
        due.sentence("A call that is refused, because something is not there, changes nothing",
            Promise18OrderAndLimitsTest::slots);
        due.sentence("A call that is refused changes nothing: nor do many of them", Promise18OrderAndLimitsTest::many);
        due.sentence("step: from a zero of either sign it is, up, the least float above 0",
            Promise18OrderAndLimitsTest::upFromZero);
        due.sentence("and, down, the greatest float below 0", Promise18OrderAndLimitsTest::downFromZero);
        due.sentence("whole sets no flag but INEXACT", Promise18OrderAndLimitsTest::wholeIsInexactAtMost);
        due.end();
    }

    /** Just beyond each bound; the tests of the promises go farther. */
    private static void numbers() {
        refusal.refused("load(0, 33, 301)", f -> f.load(0, 33, 301));
        refusal.refused("load(0, 33, -301)", f -> f.load(0, 33, -301));
        refusal.refused("special(0, 3, true)", f -> f.special(0, 3, true));
        refusal.refused("special(0, -1, true)", f -> f.special(0, -1, true));
        refusal.refused("mode(5)", f -> f.mode(5));
        refusal.refused("mode(-1)", f -> f.mode(-1));
        refusal.refused("calculate(7, 0, 1, 2)", f -> f.calculate(7, 0, 1, 2));
        refusal.refused("calculate(-1, 0, 1, 2)", f -> f.calculate(-1, 0, 1, 2));
        refusal.refused("scale(0, 401, 1)", f -> f.scale(0, 401, 1));
        refusal.refused("scale(0, -401, 1)", f -> f.scale(0, -401, 1));
        refusal.answers("bits(0, 4)", 0, f -> f.bits(0, 4));
        refusal.answers("bits(0, -1)", 0, f -> f.bits(0, -1));
    }

    /** Where the call, had it been carried out, would have raised a flag: it is not carried out in part. */
    private static void slots() {
        refusal.refused("load, inexact", f -> f.load(8, Integer.MAX_VALUE, -140));
        refusal.refused("load, overflow", f -> f.load(8, 1, 300));
        refusal.refused("load, underflow", f -> f.load(-1, 1, -300));
        refusal.refused("special", f -> f.special(8, 1, true));
        refusal.refused("calculate, overflow", f -> f.calculate(3, 0, 7, 8));
        refusal.refused("calculate, underflow", f -> f.calculate(2, 7, 7, -1));
        refusal.refused("calculate, division by zero", f -> f.calculate(3, 0, 2, -1));
        refusal.refused("calculate, invalid", f -> f.calculate(0, 4, 5, 8));
        refusal.refused("calculate, invalid remainder", f -> f.calculate(4, 0, 3, 8));
        refusal.refused("fuse, invalid", f -> f.fuse(2, 4, 0, 8));
        refusal.refused("fuse, inexact", f -> f.fuse(7, 7, 0, -1));
        refusal.refused("root, invalid", f -> f.root(1, 8));
        refusal.refused("root, inexact", f -> f.root(0, -1));
        refusal.refused("whole, inexact", f -> f.whole(1, 8));
        refusal.refused("step", f -> f.step(0, true, 8));
        refusal.refused("scale, overflow", f -> f.scale(0, 400, 8));
        refusal.refused("scale, underflow", f -> f.scale(0, -400, -1));
        refusal.answers("compare", -2, f -> f.compare(0, 8));
        refusal.answers("integer", 0, f -> f.integer(8));
        refusal.answers("kind", -1, f -> f.kind(8));
        refusal.answers("negative", false, f -> f.negative(8));
        refusal.answers("exponent", -1000, f -> f.exponent(8));
        refusal.answers("bits", 0, f -> f.bits(8, 0));
    }

    private static void many() {
        refusal.refused("a hundred refused calls", Promise18OrderAndLimitsTest::hundredTimes);
    }

    private static boolean hundredTimes(LimbFloats f) {
        boolean accepted = false;
        for (int i = 0; i < 10; i++) {
            accepted |= f.load(8 + i, 33, 0) | f.load(i % 8, 33, 301 + i) | f.special(-1 - i, i % 3, true)
                | f.special(i % 8, 3 + i, false) | f.mode(5 + i) | f.calculate(7 + i, 0, 1, 2)
                | f.fuse(2, 4, i % 8, 8 + i) | f.root(1, 8 + i) | f.whole(1, -1 - i) | f.scale(0, 401 + i, 1);
        }
        return accepted;
    }

    private static void upFromZero() {
        for (int precision = 2; precision <= 64; precision++) {
            for (int mode = 0; mode < 5; mode++) {
                String least = "+" + Trial.leastTimes(precision, 1) + " 0";
                due.same("up from +0", Trial.stepped(precision, mode, "+0", true), least);
                due.same("up from -0", Trial.stepped(precision, mode, "-0", true), least);
            }
        }
    }

    private static void downFromZero() {
        for (int precision = 2; precision <= 64; precision++) {
            for (int mode = 0; mode < 5; mode++) {
                String greatest = "-" + Trial.leastTimes(precision, 1) + " 0";
                due.same("down from +0", Trial.stepped(precision, mode, "+0", false), greatest);
                due.same("down from -0", Trial.stepped(precision, mode, "-0", false), greatest);
            }
        }
    }

    /** Neither UNDERFLOW for what is below 2^-100 nor OVERFLOW for the greatest float. */
    private static void wholeIsInexactAtMost() {
        for (int precision = 2; precision <= 64; precision++) {
            for (int mode = 0; mode < 5; mode++) {
                String least = Trial.leastTimes(precision, 1);
                whole(precision, mode, "+" + least, mode == 2 ? "+1p0 1" : "+0 1");
                whole(precision, mode, "-" + least, mode == 3 ? "-1p0 1" : "-0 1");
                String below = Trial.greatestSubnormal(precision);
                whole(precision, mode, "+" + below, mode == 2 ? "+1p0 1" : "+0 1");
                whole(precision, mode, "-" + below, mode == 3 ? "-1p0 1" : "-0 1");
                String belowOne = Trial.greatest(precision, -1);
                whole(precision, mode, "+" + belowOne, mode == 1 || mode == 3 ? "+0 1" : "+1p0 1");
                whole(precision, mode, "-" + belowOne, mode == 1 || mode == 2 ? "-0 1" : "-1p0 1");
                String greatest = Trial.greatest(precision, 100);
                whole(precision, mode, "+" + greatest, "+" + greatest + " 0");
                whole(precision, mode, "-" + greatest, "-" + greatest + " 0");
            }
        }
    }

    private static void whole(int precision, int mode, String x, String want) {
        due.same("whole of " + x + " at " + precision + " in mode " + mode, Trial.madeWhole(precision, mode, x), want);
    }
}
