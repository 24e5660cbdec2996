public final class Promise07RootTest {
    private static final Due due = new Due();
    private static final Refusal refusal = new Refusal(due);

    public static void main(String[] args) {
        due.sentence("Float into becomes the square root of x", Promise07RootTest::ordinary);
        due.sentence("the square root of x, rounded", Promise07RootTest::rounding);
        due.sentence("the square root of x: 0, infinite, below 0, not a number", Promise07RootTest::specials);
        due.sentence("Float into", Promise07RootTest::sameSlots);
        due.sentence("likewise: false, and nothing changes, if there is no such slot", Promise07RootTest::noSlot);
        due.end();
    }

    private static void inModes(int precision, String x, String... want) {
        for (int mode = 0; mode < 5; mode++) {
            due.same("root of " + x + " at " + precision + " in mode " + mode, Trial.rooted(precision, mode, x), want[mode]);
        }
    }

    private static void inAllModes(int precision, String x, String want) {
        inModes(precision, x, want, want, want, want, want);
    }

    private static void ordinary() {
        inAllModes(24, "+1p0", "+1p0 0");
        inAllModes(24, "+9p0", "+3p0 0");
        inAllModes(24, "+9p-2", "+3p-1 0");
        inAllModes(24, "+25p-20", "+5p-10 0");
        inAllModes(24, "+16769025p0", "+4095p0 0");
        inAllModes(2, "+1p100", "+1p50 0");
        inAllModes(64, "+18446744065119617025p0", "+4294967295p0 0");
        inAllModes(64, "+1p-162s", "+1p-81 0");
        inAllModes(5, "+1p-104s", "+1p-52 0");
        inAllModes(5, "+9p-104s", "+3p-52 0");
    }

    private static void rounding() {
        // 1.4142.. at 3 bits lies between 1.25 and 1.5, 2.6457.. (of 7) between 2.5 and 3.
        inModes(3, "+1p1", "+3p-1 1", "+5p-2 1", "+3p-1 1", "+5p-2 1", "+3p-1 1");
        inModes(3, "+7p0", "+5p-1 1", "+5p-1 1", "+3p0 1", "+5p-1 1", "+5p-1 1");
        // The root of 2^64 - 1 is 2^32 less a little more than half of 2^-32, where the last bit is 2^-32.
        inModes(64, "+18446744073709551615p0", "+18446744073709551615p-32 1", "+18446744073709551615p-32 1",
            "+1p32 1", "+18446744073709551615p-32 1", "+18446744073709551615p-32 1");
        // The first 128 bits of the root of 2 are B504F333F9DE6484 597D89B3754ABE9F.
        inModes(64, "+1p1", "+3260954456333195553p-61 1", "+3260954456333195553p-61 1",
            "+13043817825332782213p-63 1", "+3260954456333195553p-61 1", "+3260954456333195553p-61 1");
        inModes(64, "+1p-163s", "+3260954456333195553p-143 1", "+3260954456333195553p-143 1",
            "+13043817825332782213p-145 1", "+3260954456333195553p-143 1", "+3260954456333195553p-143 1");
        // Those of 3 are DDB3D742C265539D 92BA16B83C5C1DC4, of 5 8F1BBCDCBFA53E0A F9CE60302E76E41A: above the half.
        inModes(64, "+3p0", "+7987674492471257551p-62 1", "+15975348984942515101p-63 1",
            "+7987674492471257551p-62 1", "+15975348984942515101p-63 1", "+7987674492471257551p-62 1");
        inModes(64, "+5p-100", "+10312043428088987147p-112 1", "+5156021714044493573p-111 1",
            "+10312043428088987147p-112 1", "+5156021714044493573p-111 1", "+10312043428088987147p-112 1");
        // 2.4494.. * 2^49 at 2 bits lies between 2 and 3 times 2^49.
        inModes(2, "+3p99", "+1p50 1", "+1p50 1", "+3p49 1", "+1p50 1", "+1p50 1");
        // 15.49.. (of 240) at 4 bits may be rounded up to the next power of 2.
        inModes(4, "+15p4", "+15p0 1", "+15p0 1", "+1p4 1", "+15p0 1", "+15p0 1");
    }

    private static void specials() {
        inAllModes(11, "+0", "+0 0");
        inAllModes(11, "-0", "-0 0");
        inAllModes(11, "+inf", "+inf 0");
        inAllModes(11, "-inf", "not 16");
        inAllModes(11, "-1p0", "not 16");
        inAllModes(11, "-9p0", "not 16");
        inAllModes(11, "-1p-110s", "not 16");
        inAllModes(11, "not", "not 0");
    }

    private static void sameSlots() {
        Trial trial = new Trial(24);
        trial.floats.load(5, 81, 0);
        due.yes("root in place", trial.floats.root(5, 5));
        due.yes("root into another", trial.floats.root(5, 6));
        due.same("roots of 81", trial.showAll(), "+0 +0 +0 +0 +0 +9p0 +3p0 +0");
    }

    private static void noSlot() {
        for (int none : Refusal.NO_SLOTS) {
            for (int slot = 0; slot < 8; slot++) {
                int s = slot;
                refusal.refused("root(" + none + ", " + slot + ")", f -> f.root(none, s));
                refusal.refused("root(" + slot + ", " + none + ")", f -> f.root(s, none));
            }
            refusal.refused("root(" + none + ", " + none + ")", f -> f.root(none, none));
        }
    }
}
