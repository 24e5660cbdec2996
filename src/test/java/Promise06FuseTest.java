public final class Promise06FuseTest {
    private static final Due due = new Due();
    private static final Refusal refusal = new Refusal(due);

    public static void main(String[] args) {
        due.sentence("Float into becomes x y + z", Promise06FuseTest::ordinary);
        due.sentence("rounded once", Promise06FuseTest::roundedOnce);
        due.sentence("x y + z: exactly 0", Promise06FuseTest::zeroSums);
        due.sentence("x y + z: too small, too large", Promise06FuseTest::edgesOfTheRange);
        due.sentence("x y + z: infinite", Promise06FuseTest::specials);
        due.sentence("x y + z: not a number", Promise06FuseTest::notANumber);
        due.sentence("Float into", Promise06FuseTest::sameSlots);
        due.sentence("false, and nothing changes, if there is no such slot", Promise06FuseTest::noSlot);
        due.end();
    }

    private static void is(int precision, int mode, String x, String y, String z, String want) {
        String what = x + " * " + y + " + " + z + " at " + precision + " in mode " + mode;
        due.same(what, Trial.fused(precision, mode, x, y, z), want);
    }

    private static void inModes(int precision, String x, String y, String z, String... want) {
        for (int mode = 0; mode < 5; mode++) {
            is(precision, mode, x, y, z, want[mode]);
        }
    }

    private static void inAllModes(int precision, String x, String y, String z, String want) {
        inModes(precision, x, y, z, want, want, want, want, want);
    }

    private static void ordinary() {
        inAllModes(24, "+3p0", "+5p0", "+7p0", "+11p1 0");
        inAllModes(24, "-3p0", "+5p0", "+7p0", "-1p3 0");
        inAllModes(24, "+3p0", "+5p0", "-1p4", "-1p0 0");
        inAllModes(24, "+0", "-5p0", "+7p0", "+7p0 0");
        inAllModes(24, "+3p0", "-5p0", "+0", "-15p0 0");
    }

    /** Where the product, rounded first, would give another answer. */
    private static void roundedOnce() {
        // 7 * 7 = 49 would be 48 at 3 bits.
        inAllModes(3, "+7p0", "+7p0", "-3p4", "+1p0 0");
        inAllModes(3, "+5p0", "+5p0", "-7p2", "-3p0 0");
        // 25 + 3 is a float, though 25 is none; 35 + 1 is the tie between 32 and 40.
        inAllModes(3, "+5p0", "+5p0", "+3p0", "+7p2 0");
        inModes(3, "+5p0", "+7p0", "+1p0", "+1p5 1", "+1p5 1", "+5p3 1", "+1p5 1", "+5p3 1");
        // A product far below the sum's last bit still tells which side of the tie it is.
        inModes(3, "+1p-60", "+1p-60", "+1p0", "+1p0 1", "+1p0 1", "+5p-2 1", "+1p0 1", "+1p0 1");
        inModes(3, "+1p-60", "-1p-60", "+1p0", "+1p0 1", "+7p-3 1", "+1p0 1", "+7p-3 1", "+1p0 1");
        // The product overflows, or underflows, but the sum does not.
        inAllModes(5, "+1p100", "+1p1", "-31p96", "+1p96 0");
        inAllModes(5, "+1p51", "+1p50", "-1p100", "+1p100 0");
        inAllModes(5, "+1p-60", "+1p-44", "+1p-104s", "+1p-103s 0");
        inModes(5, "+1p-60", "+1p-46", "+1p-104s", "+1p-104s 3", "+1p-104s 3", "+1p-103s 3", "+1p-104s 3", "+1p-104s 3");
        inModes(5, "+1p-60", "+1p-45", "+1p-104s", "+1p-103s 3", "+1p-104s 3", "+1p-103s 3", "+1p-104s 3", "+1p-103s 3");
        inModes(5, "+1p100", "-1p100", "+31p96", "-inf 5", "-31p96 5", "-31p96 5", "-inf 5", "-inf 5");
        // (2^64 - 1)^2 - (2^64 - 2) 2^64 = 1: all but the last of 128 bits cancel.
        inAllModes(64, "+18446744073709551615p-20", "+18446744073709551615p-20", "-9223372036854775807p25", "+1p-40 0");
        // (2^32 + 1)^2 = 2^64 + 2^33 + 1 is a tie at 64 bits, between 2^64 + 2^33 and that and 2.
        String lower = "+2147483649p33 1";
        String upper = "+9223372041149743105p1 1";
        inModes(64, "+4294967297p0", "+4294967297p0", "+0", lower, lower, upper, lower, upper);
        inModes(64, "+4294967297p0", "+4294967297p0", "+1p-163s", upper, lower, upper, lower, upper);
        inModes(64, "+4294967297p0", "+4294967297p0", "-1p-163s", lower, lower, upper, lower, lower);
    }

    private static void zeroSums() {
        inModes(11, "+3p0", "+5p0", "-15p0", "+0 0", "+0 0", "+0 0", "-0 0", "+0 0");
        inModes(11, "-3p0", "+5p0", "+15p0", "+0 0", "+0 0", "+0 0", "-0 0", "+0 0");
        inModes(11, "+0", "+5p0", "-0", "+0 0", "+0 0", "+0 0", "-0 0", "+0 0");
        inModes(11, "-0", "+5p0", "+0", "+0 0", "+0 0", "+0 0", "-0 0", "+0 0");
        inAllModes(11, "-0", "+5p0", "-0", "-0 0");
        inAllModes(11, "-0", "-0", "+0", "+0 0");
        inAllModes(11, "+0", "+0", "+0", "+0 0");
        // The product is no zero, though it would be rounded to one.
        inModes(5, "-1p-104s", "+1p-104s", "-0", "-0 3", "-0 3", "-0 3", "-1p-104s 3", "-0 3");
        inModes(5, "+1p-104s", "+1p-104s", "-0", "+0 3", "+0 3", "+1p-104s 3", "+0 3", "+0 3");
    }

    /** At 5 bits the greatest float is 31 * 2^96 and the least 2^-104. */
    private static void edgesOfTheRange() {
        inModes(5, "+1p100", "+1p0", "+1p100", "+inf 5", "+31p96 5", "+inf 5", "+31p96 5", "+inf 5");
        inModes(5, "-1p100", "+1p100", "+1p-104s", "-inf 5", "-31p96 5", "-31p96 5", "-inf 5", "-inf 5");
        inModes(5, "+1p50", "+1p45", "+31p96", "+inf 5", "+31p96 1", "+inf 5", "+31p96 1", "+inf 5");
        inModes(5, "+1p50", "+1p44", "+31p96", "+31p96 1", "+31p96 1", "+inf 5", "+31p96 1", "+31p96 1");
        // The product alone is too large, the sum is not: no flag.
        inAllModes(5, "+1p51", "+1p50", "-31p96", "+1p96 0");
        inModes(5, "+1p-60", "+1p-45", "+0", "+0 3", "+0 3", "+1p-104s 3", "+0 3", "+1p-104s 3");
        inModes(5, "-3p-60", "+1p-46", "+0", "-1p-104s 3", "-0 3", "-0 3", "-1p-104s 3", "-1p-104s 3");
        // 2^-100 less half of the least float is below 2^-100, 2^-100 and that half is not.
        inModes(5, "-1p-60", "+1p-45", "+1p-100", "+1p-100 3", "+15p-104s 3", "+1p-100 3", "+15p-104s 3", "+1p-100 3");
        inModes(5, "+1p-60", "+1p-45", "+1p-100", "+1p-100 1", "+1p-100 1", "+17p-104 1", "+1p-100 1", "+17p-104 1");
        inAllModes(5, "+1p-60", "-1p-44", "+1p-100", "+15p-104s 0");
    }

    private static void specials() {
        inAllModes(11, "+0", "+inf", "+5p0", "not 16");
        inAllModes(11, "-inf", "-0", "+inf", "not 16");
        inAllModes(11, "+inf", "+5p0", "-inf", "not 16");
        inAllModes(11, "+5p0", "-inf", "+inf", "not 16");
        inAllModes(11, "-inf", "-inf", "-inf", "not 16");
        inAllModes(11, "+inf", "-5p0", "-inf", "-inf 0");
        inAllModes(11, "-inf", "-5p0", "-7p0", "+inf 0");
        inAllModes(11, "+3p0", "+5p0", "-inf", "-inf 0");
        inAllModes(11, "+0", "-0", "+inf", "+inf 0");
        inAllModes(11, "+1p100", "+1p100", "-inf", "-inf 0");
    }

    private static void notANumber() {
        inAllModes(11, "not", "+5p0", "+3p0", "not 0");
        inAllModes(11, "+5p0", "not", "+3p0", "not 0");
        inAllModes(11, "+5p0", "+3p0", "not", "not 0");
        inAllModes(11, "+0", "+inf", "not", "not 0");
        inAllModes(11, "not", "+inf", "-inf", "not 0");
        inAllModes(11, "+1p100", "+1p100", "not", "not 0");
    }

    private static void sameSlots() {
        Trial trial = new Trial(24);
        trial.floats.load(2, 3, 0);
        due.yes("fuse in place", trial.floats.fuse(2, 2, 2, 2));
        due.same("3 * 3 + 3", trial.show(2), "+3p2");
        trial.floats.load(0, -2, 0);
        trial.floats.load(1, 5, 0);
        trial.floats.fuse(0, 1, 2, 1);
        due.same("-2 * 5 + 12 into 5", trial.showAll(), "-1p1 +1p1 +3p2 +0 +0 +0 +0 +0");
    }

    /** With operands that would raise a flag, 0 times inf and inf - inf among them, and with not a number. */
    private static void noSlot() {
        for (int none : Refusal.NO_SLOTS) {
            refusal.refused("fuse(" + none + ", 4, 0, 1)", f -> f.fuse(none, 4, 0, 1));
            refusal.refused("fuse(2, " + none + ", 0, 1)", f -> f.fuse(2, none, 0, 1));
            refusal.refused("fuse(2, 4, " + none + ", 1)", f -> f.fuse(2, 4, none, 1));
            refusal.refused("fuse(6, 6, " + none + ", 1)", f -> f.fuse(6, 6, none, 1));
            refusal.refused("fuse(2, 4, 0, " + none + ")", f -> f.fuse(2, 4, 0, none));
            refusal.refused("fuse(0, 4, 5, " + none + ")", f -> f.fuse(0, 4, 5, none));
            refusal.refused("fuse(7, 7, 0, " + none + ")", f -> f.fuse(7, 7, 0, none));
        }
    }
}
