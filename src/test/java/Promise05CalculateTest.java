public final class Promise05CalculateTest {
    private static final int ADD = Trial.ADD, SUBTRACT = Trial.SUBTRACT, MULTIPLY = Trial.MULTIPLY, DIVIDE = Trial.DIVIDE;
    private static final int REMAINDER = Trial.REMAINDER, LEAST = Trial.LEAST, GREATEST = Trial.GREATEST;
    private static final String ALL_ONES = "18446744073709551615";
    private static final Due due = new Due();
    private static final Refusal refusal = new Refusal(due);

    public static void main(String[] args) {
        due.sentence("Float into becomes ... of floats x and y: true", Promise05CalculateTest::ordinary);
        due.sentence("x + y (op 0), x - y (1), x y (2), x / y (3)", Promise05CalculateTest::rounding);
        due.sentence("x + y (op 0), x - y (1): exactly 0", Promise05CalculateTest::zeroSums);
        due.sentence("x + y (op 0) to x / y (3): too small, too large", Promise05CalculateTest::edgesOfTheRange);
        due.sentence("x + y (op 0) to x / y (3): infinite, zero", Promise05CalculateTest::specials);
        due.sentence("x + y (op 0) to the greatest (6): not a number", Promise05CalculateTest::notANumber);
        due.sentence("the remainder (4)", Promise05CalculateTest::remainders);
        due.sentence("the least (5), the greatest (6)", Promise05CalculateTest::leastAndGreatest);
        due.sentence("Float into", Promise05CalculateTest::sameSlots);
        due.sentence("false, and nothing changes, if op is none of these", Promise05CalculateTest::noSuchOperation);
        due.sentence("false, and nothing changes, if a slot is none of these", Promise05CalculateTest::noSlot);
        due.end();
    }

    private static void is(int precision, int mode, int op, String x, String y, String want) {
        String what = x + " op " + op + " " + y + " at " + precision + " in mode " + mode;
        due.same(what, Trial.calculated(precision, mode, op, x, y), want);
    }

    private static void inModes(int precision, int op, String x, String y, String... want) {
        for (int mode = 0; mode < 5; mode++) {
            is(precision, mode, op, x, y, want[mode]);
        }
    }

    private static void inAllModes(int precision, int op, String x, String y, String want) {
        inModes(precision, op, x, y, want, want, want, want, want);
    }

    private static void ordinary() {
        inAllModes(24, ADD, "+1p0", "+3p0", "+1p2 0");
        inAllModes(24, SUBTRACT, "+1p0", "+3p0", "-1p1 0");
        inAllModes(24, MULTIPLY, "-5p-1", "+3p0", "-15p-1 0");
        inAllModes(24, DIVIDE, "-15p-1", "-3p0", "+5p-1 0");
        inAllModes(24, REMAINDER, "+7p0", "+5p0", "+1p1 0");
        inAllModes(24, LEAST, "+7p0", "-5p0", "-5p0 0");
        inAllModes(24, GREATEST, "+7p0", "-5p0", "+7p0 0");
    }

    private static void rounding() {
        inModes(3, ADD, "+1p3", "+1p0", "+1p3 1", "+1p3 1", "+5p1 1", "+1p3 1", "+5p1 1");
        inModes(3, ADD, "+7p0", "+1p-40", "+7p0 1", "+7p0 1", "+1p3 1", "+7p0 1", "+7p0 1");
        inModes(3, SUBTRACT, "+1p3", "+1p-40", "+1p3 1", "+7p0 1", "+1p3 1", "+7p0 1", "+1p3 1");
        inModes(3, SUBTRACT, "-1p3", "+1p-99", "-1p3 1", "-1p3 1", "-1p3 1", "-5p1 1", "-1p3 1");
        inModes(3, MULTIPLY, "+5p0", "-5p0", "-3p3 1", "-3p3 1", "-3p3 1", "-7p2 1", "-3p3 1");
        inModes(3, DIVIDE, "+1p0", "+3p0", "+5p-4 1", "+5p-4 1", "+3p-3 1", "+5p-4 1", "+5p-4 1");
        inModes(3, DIVIDE, "-1p0", "+7p0", "-5p-5 1", "-1p-3 1", "-1p-3 1", "-5p-5 1", "-5p-5 1");
        // (2^64 - 1)^2 and its like need every bit of the product.
        String ones = "+" + ALL_ONES + "p0";
        inModes(64, MULTIPLY, ones, "+" + ALL_ONES + "p-60", "+9223372036854775807p5 1", "+9223372036854775807p5 1",
            "+" + ALL_ONES + "p4 1", "+9223372036854775807p5 1", "+9223372036854775807p5 1");
        // 5/7 is 0.101101.. in bits: 64 of them, and then 01101..
        String sevenths = "+13176245766935394011p-64 1";
        inModes(64, DIVIDE, "+5p0", "+7p0", sevenths, sevenths, "+3294061441733848503p-62 1", sevenths, sevenths);
        // 1 / (2^64 - 1) is 2^-64 and a little more than half of the last bit.
        String more = "+9223372036854775809p-127 1";
        inModes(64, DIVIDE, "+1p0", ones, more, "+1p-64 1", more, "+1p-64 1", more);
        inModes(64, ADD, ones, "+1p-1", "+1p64 1", "+" + ALL_ONES + "p0 1", "+1p64 1", "+" + ALL_ONES + "p0 1", "+1p64 1");
        inModes(64, ADD, ones, "+1p-2", ones + " 1", ones + " 1", "+1p64 1", ones + " 1", ones + " 1");
        inAllModes(64, SUBTRACT, "+1p64", ones, "+1p0 0");
    }

    private static void zeroSums() {
        inModes(11, ADD, "+5p0", "-5p0", "+0 0", "+0 0", "+0 0", "-0 0", "+0 0");
        inModes(11, SUBTRACT, "-5p0", "-5p0", "+0 0", "+0 0", "+0 0", "-0 0", "+0 0");
        inModes(11, ADD, "+0", "-0", "+0 0", "+0 0", "+0 0", "-0 0", "+0 0");
        inModes(11, ADD, "-0", "+0", "+0 0", "+0 0", "+0 0", "-0 0", "+0 0");
        inModes(11, SUBTRACT, "+0", "+0", "+0 0", "+0 0", "+0 0", "-0 0", "+0 0");
        inModes(11, SUBTRACT, "-0", "-0", "+0 0", "+0 0", "+0 0", "-0 0", "+0 0");
        inAllModes(11, ADD, "+0", "+0", "+0 0");
        inAllModes(11, ADD, "-0", "-0", "-0 0");
        inAllModes(11, SUBTRACT, "+0", "-0", "+0 0");
        inAllModes(11, SUBTRACT, "-0", "+0", "-0 0");
        inAllModes(11, ADD, "+0", "-5p0", "-5p0 0");
        inAllModes(11, SUBTRACT, "-0", "-5p0", "+5p0 0");
    }

    private static void edgesOfTheRange() {
        inModes(5, ADD, "+31p96", "+1p100", "+inf 5", "+31p96 5", "+inf 5", "+31p96 5", "+inf 5");
        inModes(5, SUBTRACT, "-31p96", "+1p100", "-inf 5", "-31p96 5", "-31p96 5", "-inf 5", "-inf 5");
        inModes(5, ADD, "+31p96", "+1p95", "+inf 5", "+31p96 1", "+inf 5", "+31p96 1", "+inf 5");
        inModes(5, ADD, "+31p96", "+1p-104s", "+31p96 1", "+31p96 1", "+inf 5", "+31p96 1", "+31p96 1");
        inModes(5, MULTIPLY, "-1p100", "-1p100", "+inf 5", "+31p96 5", "+inf 5", "+31p96 5", "+inf 5");
        inModes(5, DIVIDE, "+1p100", "-1p-104s", "-inf 5", "-31p96 5", "-31p96 5", "-inf 5", "-inf 5");
        inModes(5, MULTIPLY, "+1p-104s", "-1p-104s", "-0 3", "-0 3", "-0 3", "-1p-104s 3", "-0 3");
        inModes(5, DIVIDE, "+1p-104s", "+31p96", "+0 3", "+0 3", "+1p-104s 3", "+0 3", "+0 3");
        inModes(5, DIVIDE, "+3p-104s", "+1p1", "+1p-103s 3", "+1p-104s 3", "+1p-103s 3", "+1p-104s 3", "+1p-103s 3");
        inModes(5, MULTIPLY, "+31p-100", "+1p-5", "+1p-100 3", "+15p-104s 3", "+1p-100 3", "+15p-104s 3", "+1p-100 3");
        inAllModes(5, ADD, "+1p-104s", "-1p-100", "-15p-104s 0");
        inAllModes(5, ADD, "+1p-104s", "+15p-104s", "+1p-100 0");
        inAllModes(5, MULTIPLY, "+3p-104s", "+1p1", "+3p-103s 0");
    }

    private static void specials() {
        inAllModes(11, ADD, "+inf", "-inf", "not 16");
        inAllModes(11, ADD, "-inf", "+inf", "not 16");
        inAllModes(11, ADD, "-inf", "-inf", "-inf 0");
        inAllModes(11, SUBTRACT, "+inf", "+inf", "not 16");
        inAllModes(11, SUBTRACT, "-inf", "-inf", "not 16");
        inAllModes(11, SUBTRACT, "+inf", "-inf", "+inf 0");
        inAllModes(11, ADD, "-5p0", "+inf", "+inf 0");
        inAllModes(11, SUBTRACT, "-5p0", "+inf", "-inf 0");
        inAllModes(11, SUBTRACT, "-inf", "+0", "-inf 0");
        inAllModes(11, MULTIPLY, "+0", "-inf", "not 16");
        inAllModes(11, MULTIPLY, "+inf", "-0", "not 16");
        inAllModes(11, MULTIPLY, "+inf", "-5p0", "-inf 0");
        inAllModes(11, MULTIPLY, "-inf", "-inf", "+inf 0");
        inAllModes(11, MULTIPLY, "-0", "-5p0", "+0 0");
        inAllModes(11, MULTIPLY, "+5p0", "-0", "-0 0");
        inAllModes(11, MULTIPLY, "-0", "+0", "-0 0");
        inAllModes(11, DIVIDE, "+0", "-0", "not 16");
        inAllModes(11, DIVIDE, "-inf", "+inf", "not 16");
        inAllModes(11, DIVIDE, "+5p0", "-0", "-inf 8");
        inAllModes(11, DIVIDE, "-1p-110s", "-0", "+inf 8");
        inAllModes(11, DIVIDE, "-inf", "+0", "-inf 0");
        inAllModes(11, DIVIDE, "-inf", "-5p0", "+inf 0");
        inAllModes(11, DIVIDE, "-5p0", "+inf", "-0 0");
        inAllModes(11, DIVIDE, "-0", "-inf", "+0 0");
        inAllModes(11, DIVIDE, "+0", "-5p0", "-0 0");
    }

    private static void notANumber() {
        String[] all = {"not", "+0", "-inf", "+5p0", "-1p-110s"};
        for (int op = ADD; op <= GREATEST; op++) {
            for (String other : all) {
                inAllModes(11, op, "not", other, "not 0");
                inAllModes(11, op, other, "not", "not 0");
            }
        }
    }

    private static void remainders() {
        inAllModes(11, REMAINDER, "+5p0", "+3p0", "-1p0 0");
        inAllModes(11, REMAINDER, "-5p0", "+3p0", "+1p0 0");
        inAllModes(11, REMAINDER, "+5p0", "-3p0", "-1p0 0");
        // 3/2 and 5/2 lie between whole numbers: the even one is taken, 2 for both.
        inAllModes(11, REMAINDER, "+3p0", "+1p1", "-1p0 0");
        inAllModes(11, REMAINDER, "+5p0", "+1p1", "+1p0 0");
        inAllModes(11, REMAINDER, "-3p0", "+1p1", "+1p0 0");
        inAllModes(11, REMAINDER, "+1p0", "+1p1", "+1p0 0");
        inAllModes(11, REMAINDER, "+3p-1", "-1p1", "-1p-1 0");
        inAllModes(11, REMAINDER, "+3p1", "+3p0", "+0 0");
        inAllModes(11, REMAINDER, "-3p1", "+3p0", "-0 0");
        inAllModes(11, REMAINDER, "-3p1", "-3p0", "-0 0");
        inAllModes(11, REMAINDER, "-0", "+3p0", "-0 0");
        inAllModes(11, REMAINDER, "+0", "-3p0", "+0 0");
        inAllModes(11, REMAINDER, "+1p-110s", "+1p100", "+1p-110s 0");
        inAllModes(11, REMAINDER, "+1p100", "+3p-110s", "+1p-110s 0");
        inAllModes(11, REMAINDER, "+1p99", "+3p-110s", "-1p-110s 0");
        inAllModes(64, REMAINDER, "+1p100", "+3p-163s", "-1p-163s 0");
        inAllModes(64, REMAINDER, "+" + ALL_ONES + "p37", "+" + ALL_ONES + "p-64", "+0 0");
        inAllModes(64, REMAINDER, "+9223372036854775809p0", "+1p64", "-9223372036854775807p0 0");
        inAllModes(11, REMAINDER, "-5p0", "+inf", "-5p0 0");
        inAllModes(11, REMAINDER, "-0", "-inf", "-0 0");
        inAllModes(11, REMAINDER, "+inf", "+3p0", "not 16");
        inAllModes(11, REMAINDER, "-inf", "+inf", "not 16");
        inAllModes(11, REMAINDER, "+inf", "+0", "not 16");
        inAllModes(11, REMAINDER, "+5p0", "-0", "not 16");
        inAllModes(11, REMAINDER, "+0", "+0", "not 16");
    }

    private static void leastAndGreatest() {
        String[] rising = {"-inf", "-31p90", "-5p0", "-1p-110s", "-0", "+0", "+1p-110s", "+1p0", "+5p0", "+31p90", "+inf"};
        for (int i = 0; i < rising.length; i++) {
            for (int j = 0; j < rising.length; j++) {
                inAllModes(11, LEAST, rising[i], rising[j], rising[Math.min(i, j)] + " 0");
                inAllModes(11, GREATEST, rising[i], rising[j], rising[Math.max(i, j)] + " 0");
            }
        }
    }

    private static void sameSlots() {
        Trial trial = new Trial(11);
        trial.floats.load(3, 5, 0);
        trial.floats.calculate(ADD, 3, 3, 3);
        due.same("5 + 5 in place", trial.show(3), "+5p1");
        trial.floats.calculate(MULTIPLY, 3, 3, 3);
        due.same("10 * 10 in place", trial.show(3), "+25p2");
        trial.floats.load(4, -8, 0);
        trial.floats.calculate(DIVIDE, 3, 4, 4);
        due.same("100 / -8 into -8", trial.show(4), "-25p-1");
        trial.floats.calculate(REMAINDER, 3, 4, 3);
        due.same("100 rem -12.5 into 100", trial.show(3), "+0");
        trial.floats.calculate(SUBTRACT, 3, 4, 4);
        due.same("0 - -12.5 into -12.5", trial.show(4), "+25p-1");
        trial.floats.special(5, 1, true);
        trial.floats.calculate(MULTIPLY, 4, 5, 4);
        trial.floats.calculate(LEAST, 5, 4, 4);
        due.same("the others stay", trial.showAll(), "+0 +0 +0 +0 -inf -inf +0 +0");
    }

    private static void noSuchOperation() {
        for (int op : new int[] {-1, 7, 8, 256, Integer.MIN_VALUE, Integer.MAX_VALUE}) {
            refusal.refused("calculate(" + op + ", 0, 1, 2)", f -> f.calculate(op, 0, 1, 2));
            refusal.refused("calculate(" + op + ", 4, 5, 7)", f -> f.calculate(op, 4, 5, 7));
            refusal.refused("calculate(" + op + ", 6, 6, 0)", f -> f.calculate(op, 6, 6, 0));
            refusal.refused("calculate(" + op + ", 8, 0, 0)", f -> f.calculate(op, 8, 0, 0));
        }
    }

    /** With operands that would raise a flag, 3 / 0 and inf - inf among them, and with not a number. */
    private static void noSlot() {
        for (int none : Refusal.NO_SLOTS) {
            for (int op = ADD; op <= GREATEST; op++) {
                int o = op;
                refusal.refused("calculate(" + op + ", " + none + ", 1, 2)", f -> f.calculate(o, none, 1, 2));
                refusal.refused("calculate(" + op + ", 0, " + none + ", 2)", f -> f.calculate(o, 0, none, 2));
                refusal.refused("calculate(" + op + ", 6, " + none + ", 0)", f -> f.calculate(o, 6, none, 0));
                refusal.refused("calculate(" + op + ", 0, 2, " + none + ")", f -> f.calculate(o, 0, 2, none));
                refusal.refused("calculate(" + op + ", 4, 5, " + none + ")", f -> f.calculate(o, 4, 5, none));
            }
        }
    }
}
