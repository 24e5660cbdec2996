public final class Promise09StepTest {
    private static final Due due = new Due();
    private static final Refusal refusal = new Refusal(due);

    public static void main(String[] args) {
        due.sentence("Float into becomes the next float above x (up) or below it", Promise09StepTest::everyFloatOfTwoBits);
        due.sentence("the next float above x (up) or below it, at the ends of an exponent", Promise09StepTest::ordinary);
        due.sentence("the next float above x (up) or below it, at the least normal float", Promise09StepTest::leastNormal);
        due.sentence("without a flag", Promise09StepTest::flagsStay);
        due.sentence("from zeros of both signs the least subnormal one of the sign", Promise09StepTest::fromZeros);
        due.sentence("from the greatest finite one the infinite one", Promise09StepTest::fromTheGreatest);
        due.sentence("from that one itself", Promise09StepTest::fromInfinite);
        due.sentence("the next float below what is infinite", Promise09StepTest::backFromInfinite);
        due.sentence("from a subnormal one to 0 the zero with x's sign", Promise09StepTest::toZero);
        due.sentence("what is not a number stays so", Promise09StepTest::notANumber);
        due.sentence("Float into", Promise09StepTest::sameSlots);
        due.sentence("likewise: false, and nothing changes, if there is no such slot", Promise09StepTest::noSlot);
        due.end();
    }

    /** In every mode, since a step does not look at it, and without a flag. */
    private static void step(int precision, String x, boolean up, String want) {
        for (int mode = 0; mode < 5; mode++) {
            String what = "step " + (up ? "up" : "down") + " from " + x + " at " + precision + " in mode " + mode;
            due.same(what, Trial.stepped(precision, mode, x, up), want + " 0");
        }
    }

    /** Away from 0 and back again, on both sides of it. */
    private static void between(int precision, String nearer, String farther) {
        step(precision, "+" + nearer, true, "+" + farther);
        step(precision, "+" + farther, false, "+" + nearer);
        step(precision, "-" + nearer, false, "-" + farther);
        step(precision, "-" + farther, true, "-" + nearer);
    }

    /** At 2 bits: 2^-101, then 2 and 3 times each power of 2 from 2^-101 on. */
    private static void everyFloatOfTwoBits() {
        String before = "1p-101s";
        for (int e = -100; e <= 100; e++) {
            between(2, before, "1p" + e);
            between(2, "1p" + e, "3p" + (e - 1));
            before = "3p" + (e - 1);
        }
    }

    private static void ordinary() {
        between(24, "1p0", "8388609p-23");
        between(24, "16777215p-24", "1p0");
        between(64, "1p0", "9223372036854775809p-63");
        between(64, "18446744073709551615p0", "1p64");
        between(64, "9223372036854775807p0", "18446744073709551615p-1");
        for (int precision = 2; precision <= 64; precision++) {
            for (int e = -100; e < 100; e += 25) {
                between(precision, Trial.greatest(precision, e), "1p" + (e + 1));
            }
            between(precision, Trial.greatest(precision, 99), "1p100");
        }
    }

    private static void leastNormal() {
        for (int precision = 2; precision <= 64; precision++) {
            between(precision, Trial.greatestSubnormal(precision), "1p-100");
        }
        between(24, "8388607p-123s", "1p-100");
        between(64, "9223372036854775807p-163s", "1p-100");
        between(64, "1p-163s", "1p-162s");
    }

    private static void flagsStay() {
        for (int slot = 0; slot < 8; slot++) {
            for (int flags : new int[] {0, 3, 31}) {
                for (boolean up : new boolean[] {true, false}) {
                    Trial trial = Trial.ofEveryKind(24, 0, flags);
                    trial.floats.step(slot, up, 0);
                    due.same("flags after a step from slot " + slot, trial.floats.flags(), flags);
                }
            }
        }
        Trial trial = new Trial(3);
        trial.floats.load(0, 1, 101);
        trial.floats.step(0, true, 2);
        due.same("flags stay over a step", trial.floats.flags(), 5);
    }

    private static void fromZeros() {
        for (int precision = 2; precision <= 64; precision++) {
            for (String zero : new String[] {"+0", "-0"}) {
                step(precision, zero, true, "+" + Trial.leastTimes(precision, 1));
                step(precision, zero, false, "-" + Trial.leastTimes(precision, 1));
            }
        }
    }

    private static void fromTheGreatest() {
        for (int precision = 2; precision <= 64; precision++) {
            step(precision, "+" + Trial.greatest(precision, 100), true, "+inf");
            step(precision, "-" + Trial.greatest(precision, 100), false, "-inf");
        }
    }

    private static void fromInfinite() {
        for (int precision = 2; precision <= 64; precision++) {
            step(precision, "+inf", true, "+inf");
            step(precision, "-inf", false, "-inf");
        }
    }

    private static void backFromInfinite() {
        for (int precision = 2; precision <= 64; precision++) {
            step(precision, "+inf", false, "+" + Trial.greatest(precision, 100));
            step(precision, "-inf", true, "-" + Trial.greatest(precision, 100));
        }
    }

    private static void toZero() {
        for (int precision = 2; precision <= 64; precision++) {
            step(precision, "+" + Trial.leastTimes(precision, 1), false, "+0");
            step(precision, "-" + Trial.leastTimes(precision, 1), true, "-0");
        }
    }

    private static void notANumber() {
        step(2, "not", true, "not");
        step(2, "not", false, "not");
        step(64, "not", true, "not");
        step(64, "not", false, "not");
    }

    private static void sameSlots() {
        Trial trial = new Trial(3);
        trial.floats.load(1, 1, 0);
        due.yes("step in place", trial.floats.step(1, true, 1));
        due.yes("step into another", trial.floats.step(1, true, 7));
        due.same("steps from 1", trial.showAll(), "+0 +5p-2 +0 +0 +0 +0 +0 +3p-1");
    }

    private static void noSlot() {
        for (int none : Refusal.NO_SLOTS) {
            for (int slot = 0; slot < 8; slot++) {
                int s = slot;
                refusal.refused("step(" + none + ", true, " + slot + ")", f -> f.step(none, true, s));
                refusal.refused("step(" + slot + ", false, " + none + ")", f -> f.step(s, false, none));
            }
            refusal.refused("step(" + none + ", false, 0)", f -> f.step(none, false, 0));
            refusal.refused("step(0, true, " + none + ")", f -> f.step(0, true, none));
        }
    }
}
