public final class Terms3FlagsTest {
    private static final int ADD = Trial.ADD, SUBTRACT = Trial.SUBTRACT, MULTIPLY = Trial.MULTIPLY, DIVIDE = Trial.DIVIDE;
    private static final int REMAINDER = Trial.REMAINDER, LEAST = Trial.LEAST, GREATEST = Trial.GREATEST;
    private static final Due due = new Due();

    public static void main(String[] args) {
        due.sentence("FLAGS stay until they are taken", Terms3FlagsTest::stay);
        due.sentence("1 INEXACT: a result is not the exact value", Terms3FlagsTest::inexact);
        due.sentence("1 INEXACT: not where it is", Terms3FlagsTest::exact);
        due.sentence("2 UNDERFLOW: it is not, and the exact value is less than 2^-100", Terms3FlagsTest::underflow);
        due.sentence("2 UNDERFLOW: not where the result is the exact value", Terms3FlagsTest::exactSubnormal);
        due.sentence("2 UNDERFLOW: the exact value, not the result", Terms3FlagsTest::exactValueBelowNormal);
        due.sentence("4 OVERFLOW: a finite exact value that is rounded as in the last sentence (INEXACT then too)",
            Terms3FlagsTest::overflow);
        due.sentence("4 OVERFLOW: not of one that is rounded to the greatest finite float", Terms3FlagsTest::nearOverflow);
        due.sentence("4 OVERFLOW: not of what is infinite", Terms3FlagsTest::infiniteIsNoOverflow);
        due.sentence("8 DIVISION of a finite float other than zero by zero", Terms3FlagsTest::division);
        due.sentence("8 DIVISION: not of zero, of what is infinite, of what is not a number", Terms3FlagsTest::noDivision);
        due.sentence("16 INVALID", Terms3FlagsTest::invalid);
        due.end();
    }

    private static void inAllModes(String what, String want, Trial.Act act, String... operands) {
        for (int mode = 0; mode < 5; mode++) {
            due.same(what + " in mode " + mode, Trial.done(5, mode, act, operands), want);
        }
    }

    /** The flags alone, where the result depends on the mode. */
    private static void flagsInAllModes(String what, int want, Trial.Act act, String... operands) {
        for (int mode = 0; mode < 5; mode++) {
            Trial trial = Trial.with(5, mode, operands);
            due.yes(what, act.on(trial.floats));
            due.same("flags of " + what + " in mode " + mode, trial.floats.flags(), want);
        }
    }

    /** Over each other call, results without a flag, and flags that are raised again. */
    private static void stay() {
        for (int flags : new int[] {1, 3, 5, 7, 8, 9, 16, 17, 24, 31}) {
            for (int call = 0; call < 18; call++) {
                Trial trial = Trial.ofEveryKind(24, 0, flags);
                make(trial.floats, call);
                due.same("flags " + flags + " after call " + call, trial.floats.flags(), flags);
                due.same("flags taken", trial.floats.flags(), 0);
            }
        }
    }

    private static void make(LimbFloats f, int call) {
        switch (call) {
            case 0 -> f.load(7, 5, 0);
            case 1 -> f.special(7, 2, false);
            case 2 -> f.mode(3);
            case 3, 4, 5, 6, 7, 8, 9 -> f.calculate(call - 3, 0, 1, 7);
            case 10 -> f.fuse(0, 1, 2, 7);
            case 11 -> f.root(2, 7);
            case 12 -> f.whole(0, 7);
            case 13 -> f.step(0, true, 7);
            case 14 -> f.scale(0, 5, 7);
            case 15 -> f.compare(0, 6);
            case 16 -> f.integer(1);
            default -> f.load(8, 1, 300);
        }
    }

    private static void inexact() {
        flagsInAllModes("load", 1, f -> f.load(6, 33, 0));
        flagsInAllModes("load", 1, f -> f.load(6, -63, 0));
        flagsInAllModes("sum", 1, f -> f.calculate(ADD, 0, 1, 6), "+1p5", "+1p0");
        flagsInAllModes("sum, far apart", 1, f -> f.calculate(ADD, 0, 1, 6), "+1p99", "-1p-104s");
        flagsInAllModes("difference", 1, f -> f.calculate(SUBTRACT, 0, 1, 6), "-31p0", "+1p-1");
        flagsInAllModes("product", 1, f -> f.calculate(MULTIPLY, 0, 1, 6), "+31p0", "-31p0");
        flagsInAllModes("quotient", 1, f -> f.calculate(DIVIDE, 0, 1, 6), "+1p0", "+3p0");
        flagsInAllModes("fused sum", 1, f -> f.fuse(0, 1, 2, 6), "+31p0", "+1p0", "+1p-104s");
        flagsInAllModes("root", 1, f -> f.root(0, 6), "+1p1");
        flagsInAllModes("root", 1, f -> f.root(0, 6), "+1p-103s");
        flagsInAllModes("whole", 1, f -> f.whole(0, 6), "+1p-1");
        flagsInAllModes("whole", 1, f -> f.whole(0, 6), "-31p-1");
    }

    private static void exact() {
        inAllModes("load", "+31p0 0", f -> f.load(6, 31, 0));
        inAllModes("sum", "+31p0 0", f -> f.calculate(ADD, 0, 1, 6), "+15p1", "+1p0");
        inAllModes("difference", "+1p0 0", f -> f.calculate(SUBTRACT, 0, 1, 6), "+1p5", "+31p0");
        inAllModes("product", "-15p0 0", f -> f.calculate(MULTIPLY, 0, 1, 6), "+3p0", "-5p0");
        inAllModes("quotient", "+5p-3 0", f -> f.calculate(DIVIDE, 0, 1, 6), "+15p0", "+3p3");
        inAllModes("remainder", "-1p-104s 0", f -> f.calculate(REMAINDER, 0, 1, 6), "+1p99", "+3p-104s");
        inAllModes("least", "-31p96 0", f -> f.calculate(LEAST, 0, 1, 6), "-31p96", "+1p0");
        inAllModes("greatest", "+1p-104s 0", f -> f.calculate(GREATEST, 0, 1, 6), "+1p-104s", "-1p0");
        inAllModes("fused sum", "+1p0 0", f -> f.fuse(0, 1, 2, 6), "+31p0", "+31p0", "-15p6");
        inAllModes("root", "+5p0 0", f -> f.root(0, 6), "+25p0");
        inAllModes("whole", "+31p96 0", f -> f.whole(0, 6), "+31p96");
        inAllModes("scale", "+31p96 0", f -> f.scale(0, 196, 6), "+31p-100");
    }

    private static void underflow() {
        flagsInAllModes("load", 3, f -> f.load(6, 1, -105));
        flagsInAllModes("load", 3, f -> f.load(6, -31, -105));
        flagsInAllModes("load", 3, f -> f.load(6, 1, -300));
        flagsInAllModes("product", 3, f -> f.calculate(MULTIPLY, 0, 1, 6), "-1p-60", "+1p-60");
        flagsInAllModes("quotient", 3, f -> f.calculate(DIVIDE, 0, 1, 6), "+1p-100", "-3p0");
        flagsInAllModes("fused sum", 3, f -> f.fuse(0, 1, 2, 6), "+1p-100", "+1p-100", "-1p-104s");
        flagsInAllModes("scale", 3, f -> f.scale(0, -1, 6), "+1p-104s");
        flagsInAllModes("scale", 3, f -> f.scale(0, -1, 6), "+17p-104");
    }

    private static void exactSubnormal() {
        inAllModes("load", "+15p-104s 0", f -> f.load(6, 15, -104));
        inAllModes("load", "-1p-104s 0", f -> f.load(6, -1, -104));
        inAllModes("sum", "+15p-104s 0", f -> f.calculate(ADD, 0, 1, 6), "+1p-100", "-1p-104s");
        inAllModes("difference", "-1p-104s 0", f -> f.calculate(SUBTRACT, 0, 1, 6), "+1p-100", "+17p-104");
        inAllModes("product", "+3p-103s 0", f -> f.calculate(MULTIPLY, 0, 1, 6), "+3p-50", "+1p-53");
        inAllModes("quotient", "-5p-104s 0", f -> f.calculate(DIVIDE, 0, 1, 6), "+15p-100", "-3p4");
        inAllModes("remainder", "+1p-104s 0", f -> f.calculate(REMAINDER, 0, 1, 6), "+17p-104", "+1p-103s");
        inAllModes("least", "-1p-104s 0", f -> f.calculate(LEAST, 0, 1, 6), "-1p-104s", "+0");
        inAllModes("fused sum", "+1p-104s 0", f -> f.fuse(0, 1, 2, 6), "+1p-52", "+1p-52", "+0");
        inAllModes("scale", "+15p-104s 0", f -> f.scale(0, -1, 6), "+15p-103");
        inAllModes("zero, no underflow", "+0 0", f -> f.load(6, 0, -300));
    }

    /** From below 2^-100 a result may become 2^-100; from above it none becomes less. */
    private static void exactValueBelowNormal() {
        String[] below = {"+1p-100 3", "+15p-104s 3", "+1p-100 3", "+15p-104s 3", "+1p-100 3"};
        String[] above = {"+1p-100 1", "+1p-100 1", "+17p-104 1", "+1p-100 1", "+1p-100 1"};
        for (int mode = 0; mode < 5; mode++) {
            due.same("load, below", Trial.loaded(5, mode, Integer.MAX_VALUE, -131), below[mode]);
            due.same("scale, below", Trial.scaled(5, mode, "+31p-104", -1), below[mode]);
            due.same("product, below", Trial.calculated(5, mode, MULTIPLY, "+31p-60", "+1p-45"), below[mode]);
            due.same("fused sum, below", Trial.fused(5, mode, "-1p-60", "+1p-46", "+1p-100"), below[mode]);
            due.same("fused sum, above", Trial.fused(5, mode, "+1p-60", "+1p-46", "+1p-100"), above[mode]);
            due.same("load, above", Trial.loaded(5, mode, 1073741825, -130), above[mode]);
            due.same("2^-100 itself", Trial.loaded(5, mode, 1, -100), "+1p-100 0");
        }
    }

    /** Also where the result is the greatest finite float. */
    private static void overflow() {
        flagsInAllModes("load", 5, f -> f.load(6, 1, 101));
        flagsInAllModes("load", 5, f -> f.load(6, -1, 101));
        flagsInAllModes("load", 5, f -> f.load(6, 31, 300));
        flagsInAllModes("sum", 5, f -> f.calculate(ADD, 0, 1, 6), "-1p100", "-1p100");
        flagsInAllModes("difference", 5, f -> f.calculate(SUBTRACT, 0, 1, 6), "+31p96", "-31p96");
        flagsInAllModes("product", 5, f -> f.calculate(MULTIPLY, 0, 1, 6), "+1p51", "-1p50");
        flagsInAllModes("quotient", 5, f -> f.calculate(DIVIDE, 0, 1, 6), "-1p50", "+1p-51");
        flagsInAllModes("fused sum", 5, f -> f.fuse(0, 1, 2, 6), "+1p100", "+1p0", "+1p100");
        flagsInAllModes("scale", 5, f -> f.scale(0, 1, 6), "+1p100");
        flagsInAllModes("scale", 5, f -> f.scale(0, 400, 6), "-31p96");
    }

    private static void nearOverflow() {
        String[] plus = {"+31p96 1", "+31p96 1", "+inf 5", "+31p96 1", "+31p96 1"};
        String[] minus = {"-31p96 1", "-31p96 1", "-31p96 1", "-inf 5", "-31p96 1"};
        String[] tie = {"+inf 5", "+31p96 1", "+inf 5", "+31p96 1", "+inf 5"};
        for (int mode = 0; mode < 5; mode++) {
            due.same("a little above", Trial.calculated(5, mode, ADD, "+31p96", "+1p0"), plus[mode]);
            due.same("a little below", Trial.calculated(5, mode, ADD, "-31p96", "-1p0"), minus[mode]);
            due.same("at the tie", Trial.loaded(5, mode, 63, 95), tie[mode]);
        }
    }

    private static void infiniteIsNoOverflow() {
        inAllModes("sum", "+inf 0", f -> f.calculate(ADD, 0, 1, 6), "+inf", "+1p100");
        inAllModes("product", "-inf 0", f -> f.calculate(MULTIPLY, 0, 1, 6), "+inf", "-31p96");
        inAllModes("quotient", "-inf 0", f -> f.calculate(DIVIDE, 0, 1, 6), "+inf", "-1p-104s");
        inAllModes("fused sum", "-inf 0", f -> f.fuse(0, 1, 2, 6), "+1p100", "+1p100", "-inf");
        inAllModes("scale", "+inf 0", f -> f.scale(0, 400, 6), "+inf");
        inAllModes("step", "+inf 0", f -> f.step(0, true, 6), "+31p96");
        inAllModes("quotient by zero", "+inf 8", f -> f.calculate(DIVIDE, 0, 1, 6), "+31p96", "+0");
        inAllModes("special", "-inf 0", f -> f.special(6, 1, true));
    }

    private static void division() {
        for (String x : new String[] {"1p-104s", "15p-104s", "1p-100", "1p0", "31p96"}) {
            inAllModes("+" + x + " / +0", "+inf 8", f -> f.calculate(DIVIDE, 0, 1, 6), "+" + x, "+0");
            inAllModes("+" + x + " / -0", "-inf 8", f -> f.calculate(DIVIDE, 0, 1, 6), "+" + x, "-0");
            inAllModes("-" + x + " / +0", "-inf 8", f -> f.calculate(DIVIDE, 0, 1, 6), "-" + x, "+0");
            inAllModes("-" + x + " / -0", "+inf 8", f -> f.calculate(DIVIDE, 0, 1, 6), "-" + x, "-0");
        }
    }

    private static void noDivision() {
        for (String zero : new String[] {"+0", "-0"}) {
            inAllModes("+0 / " + zero, "not 16", f -> f.calculate(DIVIDE, 0, 1, 6), "+0", zero);
            inAllModes("-0 / " + zero, "not 16", f -> f.calculate(DIVIDE, 0, 1, 6), "-0", zero);
            String sign = zero.substring(0, 1);
            inAllModes("+inf / " + zero, sign + "inf 0", f -> f.calculate(DIVIDE, 0, 1, 6), "+inf", zero);
            inAllModes("not / " + zero, "not 0", f -> f.calculate(DIVIDE, 0, 1, 6), "not", zero);
            inAllModes("5 rem " + zero, "not 16", f -> f.calculate(REMAINDER, 0, 1, 6), "+5p0", zero);
        }
        // A divisor that is not 0 is none, however small.
        flagsInAllModes("5 / the least float", 5, f -> f.calculate(DIVIDE, 0, 1, 6), "+5p0", "+1p-104s");
    }

    /** Alone, and beside the others; Terms4OperationsTest has every case. */
    private static void invalid() {
        inAllModes("inf - inf", "not 16", f -> f.calculate(SUBTRACT, 0, 0, 6), "+inf");
        inAllModes("root", "not 16", f -> f.root(0, 6), "-1p1");
        inAllModes("inexact and invalid", "not 17", f -> f.load(6, 33, 0) && f.root(0, 6), "-1p1");
    }
}
