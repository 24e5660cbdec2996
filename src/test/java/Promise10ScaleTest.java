public final class Promise10ScaleTest {
    private static final Due due = new Due();
    private static final Refusal refusal = new Refusal(due);

    public static void main(String[] args) {
        due.sentence("Float into becomes x * 2^k", Promise10ScaleTest::exact);
        due.sentence("rounded: too small", Promise10ScaleTest::rounding);
        due.sentence("rounded: too large", Promise10ScaleTest::overflow);
        due.sentence("x * 2^k: zeros, infinite, not a number", Promise10ScaleTest::specials);
        due.sentence("x * 2^k: k from -400 to 400", Promise10ScaleTest::everyPower);
        due.sentence("x * 2^k: too small or too large, and then another call", Promise10ScaleTest::nothingStays);
        due.sentence("Float into", Promise10ScaleTest::sameSlots);
        due.sentence("false likewise", Promise10ScaleTest::noSlot);
        due.sentence("or if k is not -400..400", Promise10ScaleTest::tooFar);
        due.end();
    }

    private static void inModes(int precision, String x, int k, String... want) {
        for (int mode = 0; mode < 5; mode++) {
            due.same(x + " * 2^" + k + " at " + precision + " in mode " + mode, Trial.scaled(precision, mode, x, k), want[mode]);
        }
    }

    private static void inAllModes(int precision, String x, int k, String want) {
        inModes(precision, x, k, want, want, want, want, want);
    }

    private static void exact() {
        inAllModes(24, "+3p0", 0, "+3p0 0");
        inAllModes(24, "+3p0", 5, "+3p5 0");
        inAllModes(24, "-3p0", -5, "-3p-5 0");
        inAllModes(24, "+1p-100", 200, "+1p100 0");
        inAllModes(24, "-1p100", -200, "-1p-100 0");
        inAllModes(24, "+1p-123s", 223, "+1p100 0");
        inAllModes(64, "+1p-163s", 263, "+1p100 0");
        inAllModes(64, "+1p100", -263, "+1p-163s 0");
        inAllModes(64, "+18446744073709551615p37", -100, "+18446744073709551615p-63 0");
        inAllModes(5, "+3p-104s", 1, "+3p-103s 0");
        inAllModes(5, "+15p-104s", 1, "+15p-103 0");
    }

    private static void rounding() {
        inModes(5, "+3p-104s", -1, "+1p-103s 3", "+1p-104s 3", "+1p-103s 3", "+1p-104s 3", "+1p-103s 3");
        inModes(5, "-1p-104s", -1, "-0 3", "-0 3", "-0 3", "-1p-104s 3", "-1p-104s 3");
        inModes(5, "+3p-104s", -2, "+1p-104s 3", "+0 3", "+1p-104s 3", "+0 3", "+1p-104s 3");
        inModes(5, "+31p-104", -1, "+1p-100 3", "+15p-104s 3", "+1p-100 3", "+15p-104s 3", "+1p-100 3");
        inModes(5, "-31p96", -400, "-0 3", "-0 3", "-0 3", "-1p-104s 3", "-0 3");
        inModes(64, "+1p-163s", -400, "+0 3", "+0 3", "+1p-163s 3", "+0 3", "+0 3");
        inModes(64, "+18446744073709551615p-100", -64, "+1p-100 3", "+9223372036854775807p-163s 3", "+1p-100 3",
            "+9223372036854775807p-163s 3", "+1p-100 3");
    }

    private static void overflow() {
        inModes(5, "+1p100", 1, "+inf 5", "+31p96 5", "+inf 5", "+31p96 5", "+inf 5");
        inModes(5, "-1p0", 101, "-inf 5", "-31p96 5", "-31p96 5", "-inf 5", "-inf 5");
        inModes(5, "+31p96", 400, "+inf 5", "+31p96 5", "+inf 5", "+31p96 5", "+inf 5");
        inModes(64, "-18446744073709551615p37", 400, "-inf 5", "-18446744073709551615p37 5",
            "-18446744073709551615p37 5", "-inf 5", "-inf 5");
        inModes(5, "+1p-104s", 400, "+inf 5", "+31p96 5", "+inf 5", "+31p96 5", "+inf 5");
    }

    private static void specials() {
        for (int k = -400; k <= 400; k += 100) {
            inAllModes(11, "+0", k, "+0 0");
            inAllModes(11, "-0", k, "-0 0");
            inAllModes(11, "+inf", k, "+inf 0");
            inAllModes(11, "-inf", k, "-inf 0");
            inAllModes(11, "not", k, "not 0");
        }
    }

    private static void nothingStays() {
        for (int mode = 0; mode < 5; mode++) {
            for (String x : new String[] {"+1p-163s", "-1p-163s"}) {
                afterScale(mode, x, -400, "+3p0 0", f -> f.load(6, 3, 0));
                afterScale(mode, x, -400, "+9p0 0", f -> f.calculate(2, 1, 1, 6));
                afterScale(mode, x, -400, "+3p0 0", f -> f.root(2, 6));
                afterScale(mode, x, -400, "+0 0", f -> f.compare(2, 2) == 0);
            }
            for (String x : new String[] {"+18446744073709551615p37", "-18446744073709551615p37"}) {
                afterScale(mode, x, 400, "+3p0 0", f -> f.load(6, 3, 0));
                afterScale(mode, x, 400, "+9p0 0", f -> f.calculate(2, 1, 1, 6));
                afterScale(mode, x, 400, "+3p0 0", f -> f.root(2, 6));
                afterScale(mode, x, 400, "+0 0", f -> f.compare(2, 2) == 0);
            }
        }
    }

    /** Slots 1 and 2 are 3 and 9. */
    private static void afterScale(int mode, String x, int k, String want, Trial.Act next) {
        Trial.Act both = f -> f.scale(0, k, 5) && f.flags() > 0 && next.on(f);
        due.same("after " + x + " * 2^" + k + " in mode " + mode, Trial.done(64, mode, both, x, "+3p0", "+9p0"), want);
    }

    private static void sameSlots() {
        Trial trial = new Trial(24);
        trial.floats.load(5, -3, 0);
        due.yes("scale in place", trial.floats.scale(5, 4, 5));
        due.yes("scale into another", trial.floats.scale(5, -400, 6));
        due.yes("scale into another", trial.floats.scale(5, 400, 7));
        due.same("-3 scaled", trial.showAll(), "+0 +0 +0 +0 +0 -3p4 -0 -inf");
    }

    private static void everyPower() {
        for (int k = -400; k <= 400; k++) {
            String high = k > 0 ? "-inf 5" : k < -223 ? "-0 3" : "-1p" + (100 + k) + (k < -200 ? "s 0" : " 0");
            String low = k < 0 ? "-0 3" : k > 223 ? "-inf 5" : "-1p" + (-123 + k) + (k < 23 ? "s 0" : " 0");
            inModes(24, "-1p100", k, high, high.replace("inf", "16777215p77"), high.replace("inf", "16777215p77"),
                high.replace("-0", "-1p-123s"), k == -224 ? "-1p-123s 3" : high);
            inModes(24, "-1p-123s", k, low, low.replace("inf", "16777215p77"), low.replace("inf", "16777215p77"),
                low.replace("-0", "-1p-123s"), k == -1 ? "-1p-123s 3" : low);
        }
    }

    private static void noSlot() {
        for (int none : Refusal.NO_SLOTS) {
            for (int slot = 0; slot < 8; slot++) {
                int s = slot;
                refusal.refused("scale(" + none + ", 1, " + slot + ")", f -> f.scale(none, 1, s));
                refusal.refused("scale(" + slot + ", 400, " + none + ")", f -> f.scale(s, 400, none));
                refusal.refused("scale(" + slot + ", -400, " + none + ")", f -> f.scale(s, -400, none));
            }
        }
    }

    private static void tooFar() {
        for (int k : new int[] {-401, 401, -402, 402, 65536, Integer.MIN_VALUE, Integer.MAX_VALUE}) {
            for (int slot = 0; slot < 8; slot++) {
                int s = slot;
                refusal.refused("scale(" + slot + ", " + k + ", 0)", f -> f.scale(s, k, 0));
            }
            refusal.refused("scale(8, " + k + ", 0)", f -> f.scale(8, k, 0));
        }
    }
}
