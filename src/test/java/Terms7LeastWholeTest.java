public final class Terms7LeastWholeTest {
    private static final int LEAST = Trial.LEAST, GREATEST = Trial.GREATEST;
    private static final Due due = new Due();

    public static void main(String[] args) {
        due.sentence("LEAST: of x and y", Terms7LeastWholeTest::least);
        due.sentence("GREATEST: of x and y", Terms7LeastWholeTest::greatest);
        due.sentence("-0 being less than +0", Terms7LeastWholeTest::zeros);
        due.sentence("WHOLE: x rounded to a whole number as ROUNDING says for multiples of 1", Terms7LeastWholeTest::wholes);
        due.sentence("multiples of 1: also below 1", Terms7LeastWholeTest::belowOne);
        due.sentence("multiples of 1: up to the greatest fraction", Terms7LeastWholeTest::greatestFraction);
        due.sentence("(INEXACT if it is not one", Terms7LeastWholeTest::inexact);
        due.sentence("signs of zeros as x's)", Terms7LeastWholeTest::signsOfZeros);
        due.end();
    }

    private static String[] rising(int precision) {
        String least = Trial.leastTimes(precision, 1);
        String greatest = Trial.greatest(precision, 100);
        return new String[] {"-inf", "-" + greatest, "-3p0", "-1p1", "-1p-100", "-" + least, "-0", "+0", "+" + least,
            "+1p-100", "+1p0", "+3p-1", "+" + greatest, "+inf"};
    }

    private static void chooses(int op, boolean first) {
        for (int precision : new int[] {2, 24, 64}) {
            String[] all = rising(precision);
            for (int i = 0; i < all.length; i++) {
                for (int j = 0; j < all.length; j++) {
                    String want = all[first ? Math.min(i, j) : Math.max(i, j)] + " 0";
                    for (int mode = 0; mode < 5; mode++) {
                        String got = Trial.calculated(precision, mode, op, all[i], all[j]);
                        due.same(all[i] + " op " + op + " " + all[j], got, want);
                    }
                }
            }
        }
    }

    private static void least() {
        chooses(LEAST, true);
    }

    private static void greatest() {
        chooses(GREATEST, false);
    }

    private static void zeros() {
        for (int mode = 0; mode < 5; mode++) {
            due.same("least of +0 and -0", Trial.calculated(24, mode, LEAST, "+0", "-0"), "-0 0");
            due.same("least of -0 and +0", Trial.calculated(24, mode, LEAST, "-0", "+0"), "-0 0");
            due.same("greatest of +0 and -0", Trial.calculated(24, mode, GREATEST, "+0", "-0"), "+0 0");
            due.same("greatest of -0 and +0", Trial.calculated(24, mode, GREATEST, "-0", "+0"), "+0 0");
            due.same("greatest of -0 and -0", Trial.calculated(24, mode, GREATEST, "-0", "-0"), "-0 0");
            due.same("least of +0 and +0", Trial.calculated(24, mode, LEAST, "+0", "+0"), "+0 0");
        }
    }

    private static void inModes(int precision, String x, String... want) {
        for (int mode = 0; mode < 5; mode++) {
            due.same("whole of " + x + " at " + precision + " in mode " + mode, Trial.madeWhole(precision, mode, x), want[mode]);
        }
    }

    /** Terms2RoundingTest has the quarters from 2 to 4; these are at the precisions that just hold them. */
    private static void wholes() {
        inModes(2, "+3p-1", "+1p1 1", "+1p0 1", "+1p1 1", "+1p0 1", "+1p1 1");
        inModes(2, "-3p-1", "-1p1 1", "-1p0 1", "-1p0 1", "-1p1 1", "-1p1 1");
        inModes(3, "+5p-1", "+1p1 1", "+1p1 1", "+3p0 1", "+1p1 1", "+3p0 1");
        inModes(3, "-7p-1", "-1p2 1", "-3p0 1", "-3p0 1", "-1p2 1", "-1p2 1");
        inModes(3, "+5p-2", "+1p0 1", "+1p0 1", "+1p1 1", "+1p0 1", "+1p0 1");
        inModes(3, "-7p-2", "-1p1 1", "-1p0 1", "-1p0 1", "-1p1 1", "-1p1 1");
    }

    private static void belowOne() {
        for (int precision = 2; precision <= 64; precision++) {
            inModes(precision, "+1p-1", "+0 1", "+0 1", "+1p0 1", "+0 1", "+1p0 1");
            inModes(precision, "-1p-1", "-0 1", "-0 1", "-0 1", "-1p0 1", "-1p0 1");
            inModes(precision, "+3p-2", "+1p0 1", "+0 1", "+1p0 1", "+0 1", "+1p0 1");
            inModes(precision, "-3p-2", "-1p0 1", "-0 1", "-0 1", "-1p0 1", "-1p0 1");
            inModes(precision, "+1p-2", "+0 1", "+0 1", "+1p0 1", "+0 1", "+0 1");
            inModes(precision, "-1p-2", "-0 1", "-0 1", "-0 1", "-1p0 1", "-0 1");
            inModes(precision, "+" + Trial.greatest(precision, -2), "+0 1", "+0 1", "+1p0 1", "+0 1", "+0 1");
        }
    }

    /** Half of 2^p - 1, the greatest with a fraction, becomes 2^(p-1) or what is 1 less. */
    private static void greatestFraction() {
        for (int precision = 2; precision <= 64; precision++) {
            String x = Trial.greatest(precision, precision - 2);
            String up = "1p" + (precision - 1);
            String down = Trial.greatest(precision - 1, precision - 2);
            inModes(precision, "+" + x, "+" + up + " 1", "+" + down + " 1", "+" + up + " 1", "+" + down + " 1", "+" + up + " 1");
            inModes(precision, "-" + x, "-" + up + " 1", "-" + down + " 1", "-" + down + " 1", "-" + up + " 1", "-" + up + " 1");
            String whole = Trial.greatest(precision, precision - 1);
            for (int mode = 0; mode < 5; mode++) {
                due.same("whole of 2^p - 1", Trial.madeWhole(precision, mode, "+" + whole), "+" + whole + " 0");
            }
        }
    }

    private static void inexact() {
        for (int precision = 2; precision <= 64; precision++) {
            for (int e = -100; e <= 100; e++) {
                Trial trial = Trial.with(precision, 0, "-3p" + (e - 1));
                trial.floats.whole(0, 1);
                due.same("flags of whole of -3 * 2^" + (e - 1), trial.floats.flags(), e < 1 ? 1 : 0);
            }
        }
    }

    private static void signsOfZeros() {
        for (int precision = 2; precision <= 64; precision++) {
            inModes(precision, "+0", "+0 0", "+0 0", "+0 0", "+0 0", "+0 0");
            inModes(precision, "-0", "-0 0", "-0 0", "-0 0", "-0 0", "-0 0");
            inModes(precision, "+1p-100", "+0 1", "+0 1", "+1p0 1", "+0 1", "+0 1");
            inModes(precision, "-1p-100", "-0 1", "-0 1", "-0 1", "-1p0 1", "-0 1");
        }
    }
}
