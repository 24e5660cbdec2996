public final class Promise02LoadTest {
    private static final Due due = new Due();
    private static final Refusal refusal = new Refusal(due);

    public static void main(String[] args) {
        due.sentence("A float becomes m * 2^e", Promise02LoadTest::exact);
        due.sentence("rounded", Promise02LoadTest::rounded);
        due.sentence("rounded: at least -100", Promise02LoadTest::underflow);
        due.sentence("rounded: 2^101 or more", Promise02LoadTest::overflow);
        due.sentence("(+0 if m is 0)", Promise02LoadTest::nothing);
        due.sentence("true", Promise02LoadTest::accepted);
        due.sentence("false, and nothing changes, if into is not 0..7", Promise02LoadTest::noSlot);
        due.sentence("or e not -300..300", Promise02LoadTest::tooFar);
        due.end();
    }

    private static void load(int precision, int mode, int m, int e, String want) {
        due.same("load " + m + " * 2^" + e + " at " + precision + " in mode " + mode, Trial.loaded(precision, mode, m, e), want);
    }

    private static void exact() {
        load(24, 0, 5, 3, "+5p3 0");
        load(24, 0, -5, -3, "-5p-3 0");
        load(31, 0, Integer.MAX_VALUE, 0, "+2147483647p0 0");
        load(64, 0, Integer.MIN_VALUE, 0, "-1p31 0");
        load(2, 0, Integer.MIN_VALUE, 69, "-1p100 0");
        load(64, 0, 1, -163, "+1p-163s 0");
        load(64, 0, 1, -100, "+1p-100 0");
        load(64, 0, Integer.MIN_VALUE, -194, "-1p-163s 0");
    }

    /** 45 = 101101b at 3 bits lies between 40 and 48; 44 is the tie; 36 is the tie below an odd one's. */
    private static void rounded() {
        String[] at45 = {"+3p4 1", "+5p3 1", "+3p4 1", "+5p3 1", "+3p4 1"};
        String[] at44 = {"+3p4 1", "+5p3 1", "+3p4 1", "+5p3 1", "+3p4 1"};
        String[] at36 = {"+1p5 1", "+1p5 1", "+5p3 1", "+1p5 1", "+5p3 1"};
        String[] at33 = {"+1p5 1", "+1p5 1", "+5p3 1", "+1p5 1", "+1p5 1"};
        String[] at63 = {"+1p6 1", "+7p3 1", "+1p6 1", "+7p3 1", "+1p6 1"};
        String[] below45 = {"-3p4 1", "-5p3 1", "-5p3 1", "-3p4 1", "-3p4 1"};
        String[] below36 = {"-1p5 1", "-1p5 1", "-1p5 1", "-5p3 1", "-5p3 1"};
        for (int mode = 0; mode < 5; mode++) {
            load(3, mode, 45, 0, at45[mode]);
            load(3, mode, 44, 0, at44[mode]);
            load(3, mode, 36, 0, at36[mode]);
            load(3, mode, 33, 0, at33[mode]);
            load(3, mode, 63, 0, at63[mode]);
            load(3, mode, -45, 0, below45[mode]);
            load(3, mode, -36, 0, below36[mode]);
        }
        load(30, 0, Integer.MAX_VALUE, 0, "+1p31 1");
        load(30, 1, Integer.MAX_VALUE, 0, "+1073741823p1 1");
    }

    /** At 5 bits the least subnormal float is 2^-104. */
    private static void underflow() {
        String[] half = {"+0 3", "+0 3", "+1p-104s 3", "+0 3", "+1p-104s 3"};
        String[] belowHalf = {"-0 3", "-0 3", "-0 3", "-1p-104s 3", "-0 3"};
        String[] aboveHalf = {"+1p-104s 3", "+0 3", "+1p-104s 3", "+0 3", "+1p-104s 3"};
        String[] farBelow = {"-0 3", "-0 3", "-0 3", "-1p-104s 3", "-0 3"};
        String[] belowNormal = {"+1p-100 3", "+15p-104s 3", "+1p-100 3", "+15p-104s 3", "+1p-100 3"};
        for (int mode = 0; mode < 5; mode++) {
            load(5, mode, 1, -105, half[mode]);
            load(5, mode, -7, -108, belowHalf[mode]);
            load(5, mode, 9, -108, aboveHalf[mode]);
            load(5, mode, -1, -300, farBelow[mode]);
            load(5, mode, 63, -106, belowNormal[mode]);
        }
        // 33 * 2^-105 is above 2^-100: inexact, but no underflow.
        load(5, 0, 33, -105, "+1p-100 1");
        load(5, 0, 15, -104, "+15p-104s 0");
    }

    /** At 5 bits the greatest float is 31 * 2^96. */
    private static void overflow() {
        String[] above = {"+inf 5", "+31p96 5", "+inf 5", "+31p96 5", "+inf 5"};
        String[] below = {"-inf 5", "-31p96 5", "-31p96 5", "-inf 5", "-inf 5"};
        String[] tie = {"+inf 5", "+31p96 1", "+inf 5", "+31p96 1", "+inf 5"};
        String[] belowTie = {"-31p96 1", "-31p96 1", "-31p96 1", "-inf 5", "-31p96 1"};
        for (int mode = 0; mode < 5; mode++) {
            load(5, mode, 1, 101, above[mode]);
            load(5, mode, -1, 101, below[mode]);
            load(5, mode, Integer.MAX_VALUE, 300, above[mode]);
            load(5, mode, Integer.MIN_VALUE, 300, below[mode]);
            load(5, mode, 63, 95, tie[mode]);
            load(5, mode, -125, 94, belowTie[mode]);
            load(5, mode, 31, 96, "+31p96 0");
        }
    }

    /** In every mode, and over whatever was there before. */
    private static void nothing() {
        for (int mode = 0; mode < 5; mode++) {
            for (int e = -300; e <= 300; e += 100) {
                load(2, mode, 0, e, "+0 0");
                load(64, mode, 0, e, "+0 0");
            }
            Trial trial = Trial.ofEveryKind(24, mode, 0);
            for (int into = 0; into < 8; into++) {
                due.yes("load 0 into " + into, trial.floats.load(into, 0, 0));
            }
            due.same("zeros in mode " + mode, trial.showAll(), "+0 +0 +0 +0 +0 +0 +0 +0");
        }
    }

    private static void accepted() {
        Trial trial = new Trial(24);
        for (int into = 0; into < 8; into++) {
            due.yes("load into " + into, trial.floats.load(into, into + 1, 0));
        }
        due.same("eight loads", trial.showAll(), "+1p0 +1p1 +3p0 +1p2 +5p0 +3p1 +7p0 +1p3");
        for (int e = -300; e <= 300; e++) {
            String want = e < -123 ? "-0 3" : e > 100 ? "-inf 5" : "-1p" + e + (e < -100 ? "s 0" : " 0");
            load(24, 0, -1, e, want);
        }
        load(24, 0, Integer.MAX_VALUE, 300, "+inf 5");
        load(24, 0, Integer.MIN_VALUE, 300, "-inf 5");
        load(24, 0, Integer.MAX_VALUE, -300, "+0 3");
        load(24, 0, Integer.MIN_VALUE, -300, "-0 3");
    }

    private static void noSlot() {
        for (int into : Refusal.NO_SLOTS) {
            refusal.refused("load(" + into + ", 1, 0)", f -> f.load(into, 1, 0));
            refusal.refused("load(" + into + ", 1, 300)", f -> f.load(into, 1, 300));
            refusal.refused("load(" + into + ", 0, -300)", f -> f.load(into, 0, -300));
        }
    }

    private static void tooFar() {
        for (int e : new int[] {-301, 301, -302, 302, 65536, Integer.MIN_VALUE, Integer.MAX_VALUE}) {
            for (int m : new int[] {1, 0, -7, Integer.MIN_VALUE}) {
                refusal.refused("load(0, " + m + ", " + e + ")", f -> f.load(0, m, e));
            }
            refusal.refused("load(7, 1, " + e + ")", f -> f.load(7, 1, e));
            refusal.refused("load(8, 1, " + e + ")", f -> f.load(8, 1, e));
        }
    }
}
