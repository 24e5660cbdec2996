public final class Terms6RemainderTest {
    private static final String ONES = "18446744073709551615";
    private static final Due due = new Due();

    public static void main(String[] args) {
        due.sentence("x - n y with the whole number n nearest to x / y", Terms6RemainderTest::nearest);
        due.sentence("n nearest: a hair beside a tie", Terms6RemainderTest::besideTies);
        due.sentence("of two equally near ones the even one", Terms6RemainderTest::ties);
        due.sentence("n may be as large as it will", Terms6RemainderTest::largeQuotients);
        due.sentence("n may be 0", Terms6RemainderTest::smallQuotients);
        due.sentence("if that is 0, with x's sign", Terms6RemainderTest::zeros);
        due.sentence("x if y is infinite and x is not", Terms6RemainderTest::infinite);
        due.end();
    }

    /** With all signs, in all modes, since n does not depend on them and nothing is rounded. */
    private static void is(int precision, String x, String y, String want) {
        String turned = (want.charAt(0) == '+' ? "-" : "+") + want.substring(1);
        for (int mode = 0; mode < 5; mode++) {
            one(precision, mode, "+" + x, "+" + y, want);
            one(precision, mode, "+" + x, "-" + y, want);
            one(precision, mode, "-" + x, "+" + y, turned);
            one(precision, mode, "-" + x, "-" + y, turned);
        }
    }

    private static void one(int precision, int mode, String x, String y, String want) {
        due.same(x + " rem " + y + " at " + precision + " in mode " + mode,
            Trial.calculated(precision, mode, Trial.REMAINDER, x, y), want + " 0");
    }

    private static void nearest() {
        is(11, "7p0", "5p0", "+1p1");
        is(11, "1p3", "5p0", "-1p1");
        is(11, "5p0", "3p0", "-1p0");
        is(11, "1p2", "3p0", "+1p0");
        is(11, "9p0", "7p0", "+1p1");
        is(11, "3p2", "7p0", "-1p1");
        is(11, "7p-2", "1p0", "-1p-2");
        is(11, "2047p0", "3p1", "+1p0");
        is(64, ONES + "p0", "3p63", "-9223372036854775809p0");
    }

    private static void besideTies() {
        is(64, "9223372036854775809p0", "1p64", "-9223372036854775807p0");
        is(64, "9223372036854775807p0", "1p64", "+9223372036854775807p0");
        is(11, "1025p0", "1p11", "-1023p0");
        is(11, "1023p0", "1p11", "+1023p0");
    }

    /** 1/2, 3/2, 5/2, 7/2 and 9/2: n is 0, 2, 2, 4, 4. */
    private static void ties() {
        is(11, "1p0", "1p1", "+1p0");
        is(11, "3p0", "1p1", "-1p0");
        is(11, "5p0", "1p1", "+1p0");
        is(11, "7p0", "1p1", "-1p0");
        is(11, "9p0", "1p1", "+1p0");
        for (int precision = 4; precision <= 64; precision++) {
            String least = Trial.leastTimes(precision, 1);
            is(precision, least, Trial.leastTimes(precision, 2), "+" + least);
            is(precision, Trial.leastTimes(precision, 3), Trial.leastTimes(precision, 2), "-" + least);
            is(precision, "1p99", "1p100", "+1p99");
            is(precision, "3p99", "1p100", "-1p99");
        }
        // Half of the greatest number is not even.
        is(64, ONES + "p0", "1p1", "-1p0");
        is(64, "18446744073709551613p0", "1p1", "+1p0");
    }

    private static void largeQuotients() {
        // 2^even leaves 1 and 2^odd leaves 2, which is 1 less than 3.
        is(11, "1p100", "3p-110s", "+1p-110s");
        is(11, "1p99", "3p-110s", "-1p-110s");
        is(64, "1p100", "3p-163s", "-1p-163s");
        is(64, "1p99", "3p-163s", "+1p-163s");
        is(64, ONES + "p37", ONES + "p-64", "+0");
        is(64, ONES + "p37", "1p-163s", "+0");
        is(2, "3p99", "1p-101s", "+0");
        // 2^64 leaves 1 beside 2^64 - 1, and so does every power of it.
        is(64, "1p64", ONES + "p0", "+1p0");
        is(64, "1p100", ONES + "p36", "+1p36");
        is(64, "1p100", ONES + "p-28", "+1p-28");
        is(64, "1p100", ONES + "p-92", "+1p-92");
    }

    private static void smallQuotients() {
        is(11, "1p-110s", "1p100", "+1p-110s");
        is(11, "2047p-110", "1p100", "+2047p-110");
        is(64, "1p-163s", ONES + "p37", "+1p-163s");
        is(64, ONES + "p0", "1p66", "+" + ONES + "p0");
        is(11, "3p0", "7p0", "+3p0");
        is(11, "1p2", "7p0", "-3p0");
    }

    private static void zeros() {
        is(11, "3p1", "3p0", "+0");
        is(11, "3p0", "3p0", "+0");
        is(11, "9p0", "3p0", "+0");
        is(11, "0", "3p0", "+0");
        is(11, "0", "1p-110s", "+0");
        is(11, "0", "2047p90", "+0");
        for (int precision = 2; precision <= 64; precision++) {
            String least = Trial.leastTimes(precision, 1);
            String greatest = Trial.greatest(precision, 100);
            is(precision, greatest, greatest, "+0");
            is(precision, greatest, least, "+0");
            is(precision, least, least, "+0");
        }
    }

    private static void infinite() {
        for (int precision = 2; precision <= 64; precision++) {
            is(precision, "0", "inf", "+0");
            is(precision, "3p0", "inf", "+3p0");
            is(precision, Trial.leastTimes(precision, 1), "inf", "+" + Trial.leastTimes(precision, 1));
            is(precision, Trial.greatest(precision, 100), "inf", "+" + Trial.greatest(precision, 100));
        }
    }
}
