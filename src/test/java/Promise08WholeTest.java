public final class Promise08WholeTest {
    private static final Due due = new Due();
    private static final Refusal refusal = new Refusal(due);

    public static void main(String[] args) {
        due.sentence("Float into becomes x as WHOLE: one that is whole", Promise08WholeTest::alreadyWhole);
        due.sentence("Float into becomes x as WHOLE: one that is not", Promise08WholeTest::rounding);
        due.sentence("Float into becomes x as WHOLE: one below 1", Promise08WholeTest::small);
        due.sentence("Float into becomes x as WHOLE: zeros, infinite, not a number", Promise08WholeTest::specials);
        due.sentence("Float into", Promise08WholeTest::sameSlots);
        due.sentence("likewise: false, and nothing changes, if there is no such slot", Promise08WholeTest::noSlot);
        due.end();
    }

    private static void inModes(int precision, String x, String... want) {
        for (int mode = 0; mode < 5; mode++) {
            due.same("whole of " + x + " at " + precision + " in mode " + mode, Trial.madeWhole(precision, mode, x), want[mode]);
        }
    }

    private static void inAllModes(int precision, String x, String want) {
        inModes(precision, x, want, want, want, want, want);
    }

    private static void alreadyWhole() {
        inAllModes(24, "+1p0", "+1p0 0");
        inAllModes(24, "-7p0", "-7p0 0");
        inAllModes(24, "+16777215p0", "+16777215p0 0");
        inAllModes(24, "-16777215p77", "-16777215p77 0");
        inAllModes(64, "+18446744073709551615p0", "+18446744073709551615p0 0");
        inAllModes(64, "+9223372036854775809p1", "+9223372036854775809p1 0");
        inAllModes(64, "-18446744073709551615p37", "-18446744073709551615p37 0");
        inAllModes(2, "+3p99", "+3p99 0");
    }

    private static void rounding() {
        inModes(11, "+5p-1", "+1p1 1", "+1p1 1", "+3p0 1", "+1p1 1", "+3p0 1");
        inModes(11, "+7p-1", "+1p2 1", "+3p0 1", "+1p2 1", "+3p0 1", "+1p2 1");
        inModes(11, "-5p-1", "-1p1 1", "-1p1 1", "-1p1 1", "-3p0 1", "-3p0 1");
        inModes(11, "+9p-2", "+1p1 1", "+1p1 1", "+3p0 1", "+1p1 1", "+1p1 1");
        inModes(11, "-11p-2", "-3p0 1", "-1p1 1", "-1p1 1", "-3p0 1", "-3p0 1");
        // 2047 / 2 is rounded up to 1024, which has one bit more.
        inModes(11, "+2047p-1", "+1p10 1", "+1023p0 1", "+1p10 1", "+1023p0 1", "+1p10 1");
        inModes(64, "+18446744073709551615p-1", "+1p63 1", "+9223372036854775807p0 1", "+1p63 1",
            "+9223372036854775807p0 1", "+1p63 1");
        inModes(64, "-18446744073709551615p-63", "-1p1 1", "-1p0 1", "-1p0 1", "-1p1 1", "-1p1 1");
    }

    private static void small() {
        inModes(11, "+1p-1", "+0 1", "+0 1", "+1p0 1", "+0 1", "+1p0 1");
        inModes(11, "-1p-1", "-0 1", "-0 1", "-0 1", "-1p0 1", "-1p0 1");
        inModes(11, "+3p-2", "+1p0 1", "+0 1", "+1p0 1", "+0 1", "+1p0 1");
        inModes(11, "-1p-2", "-0 1", "-0 1", "-0 1", "-1p0 1", "-0 1");
        inModes(11, "+1p-100", "+0 1", "+0 1", "+1p0 1", "+0 1", "+0 1");
        // INEXACT alone, though these are below 2^-100.
        inModes(11, "+1p-110s", "+0 1", "+0 1", "+1p0 1", "+0 1", "+0 1");
        inModes(64, "-1p-163s", "-0 1", "-0 1", "-0 1", "-1p0 1", "-0 1");
    }

    private static void specials() {
        inAllModes(11, "+0", "+0 0");
        inAllModes(11, "-0", "-0 0");
        inAllModes(11, "+inf", "+inf 0");
        inAllModes(11, "-inf", "-inf 0");
        inAllModes(11, "not", "not 0");
    }

    private static void sameSlots() {
        Trial trial = new Trial(24);
        trial.floats.load(5, 81, -2);
        due.yes("whole into another", trial.floats.whole(5, 4));
        due.yes("whole in place", trial.floats.whole(5, 5));
        due.same("wholes of 20.25", trial.showAll(), "+0 +0 +0 +0 +5p2 +5p2 +0 +0");
    }

    private static void noSlot() {
        for (int none : Refusal.NO_SLOTS) {
            for (int slot = 0; slot < 8; slot++) {
                int s = slot;
                refusal.refused("whole(" + none + ", " + slot + ")", f -> f.whole(none, s));
                refusal.refused("whole(" + slot + ", " + none + ")", f -> f.whole(s, none));
            }
            refusal.refused("whole(" + none + ", " + none + ")", f -> f.whole(none, none));
        }
    }
}
