import java.math.BigInteger;

public final class Terms1FloatsTest {
    private static final Due due = new Due();
    private static final Reach reach = new Reach(due);

    public static void main(String[] args) {
        due.sentence("FLOATS sit in slots 0..7", Terms1FloatsTest::slots);
        due.sentence("FLOATS sit in slots 0..7: a call reaches one of them", Terms1FloatsTest::oneSlot);
        due.sentence("a float is NOT A NUMBER", Terms1FloatsTest::notANumber);
        due.sentence("or has a sign and is infinite, or zero, or FINITE", Terms1FloatsTest::signs);
        due.sentence("M * 2^(E - p + 1)", Terms1FloatsTest::values);
        due.sentence("an EXPONENT E from -100 to 100", Terms1FloatsTest::exponents);
        due.sentence("NORMAL: M from 2^(p-1) to 2^p - 1", Terms1FloatsTest::normal);
        due.sentence("SUBNORMAL: E = -100 and M from 1 to 2^(p-1) - 1", Terms1FloatsTest::subnormal);
        due.end();
    }

    private static BigInteger power(int n) {
        return BigInteger.ONE.shiftLeft(n);
    }

    private static void slots() {
        Trial trial = new Trial(24);
        for (int slot = 0; slot < 8; slot++) {
            due.yes("load into " + slot, trial.floats.load(slot, 2 * slot + 1, slot));
        }
        due.same("all slots", trial.showAll(), "+1p0 +3p1 +5p2 +7p3 +9p4 +11p5 +13p6 +15p7");
        due.same("kind(-1)", trial.floats.kind(-1), -1);
        due.same("kind(8)", trial.floats.kind(8), -1);
    }

    /** Of 3 and -3/8, which are in slots 0 and 1, where the answer is the same in every mode. */
    private static void oneSlot() {
        reach.onlyInto("load", "-7p2", (f, into) -> f.load(into, -7, 2));
        reach.onlyInto("special", "-inf", (f, into) -> f.special(into, 1, true));
        reach.onlyInto("sum", "+21p-3", (f, into) -> f.calculate(0, 0, 1, into));
        reach.onlyInto("difference", "+27p-3", (f, into) -> f.calculate(1, 0, 1, into));
        reach.onlyInto("product", "-9p-3", (f, into) -> f.calculate(2, 0, 1, into));
        reach.onlyInto("quotient", "-1p3", (f, into) -> f.calculate(3, 0, 1, into));
        reach.onlyInto("remainder", "+0", (f, into) -> f.calculate(4, 0, 1, into));
        reach.onlyInto("least", "-3p-3", (f, into) -> f.calculate(5, 0, 1, into));
        reach.onlyInto("greatest", "+3p0", (f, into) -> f.calculate(6, 0, 1, into));
        reach.onlyInto("invalid", "not", (f, into) -> f.calculate(0, 4, 5, into));
        reach.onlyInto("fused sum", "+69p-3", (f, into) -> f.fuse(0, 0, 1, into));
        reach.onlyInto("root", "-0", (f, into) -> f.root(3, into));
        reach.onlyInto("whole", "+3p0", (f, into) -> f.whole(0, into));
        reach.onlyInto("step", "+1p-123s", (f, into) -> f.special(into, 0, true) && f.step(into, true, into));
        reach.onlyInto("scale", "-3p7", (f, into) -> f.scale(1, 10, into));
    }

    private static void notANumber() {
        for (int precision = 2; precision <= 64; precision++) {
            Trial trial = new Trial(precision);
            trial.floats.special(0, 2, false);
            due.same("not a number", trial.show(0), "not");
            due.same("not a number and itself", trial.floats.compare(0, 0), 2);
        }
    }

    private static void signs() {
        for (String x : new String[] {"0", "inf", "1p-101s", "1p-100", "3p0", "1p100"}) {
            due.same("+" + x, Trial.with(2, 0, "+" + x).show(0), "+" + x);
            due.same("-" + x, Trial.with(2, 0, "-" + x).show(0), "-" + x);
        }
    }

    /** M and E of 5 * 2^e, or of 3 * 2^e at 2 bits, by the words. */
    private static void values() {
        for (int precision = 2; precision <= 64; precision++) {
            int m = precision == 2 ? 3 : 5;
            int top = precision == 2 ? 1 : 2;
            for (int e = -90; e <= 90; e += 15) {
                Trial trial = new Trial(precision);
                trial.floats.load(0, m, e);
                due.same("E", trial.floats.exponent(0), e + top);
                due.same("M", trial.whole(0), BigInteger.valueOf(m).shiftLeft(precision - 1 - top));
            }
        }
    }

    private static void exponents() {
        for (int precision = 2; precision <= 64; precision++) {
            for (int e = -100; e <= 100; e++) {
                Trial trial = new Trial(precision);
                trial.floats.load(0, 1, e);
                due.same("E of 2^" + e, trial.floats.exponent(0), e);
            }
            Trial trial = new Trial(precision);
            trial.floats.load(0, 1, 101);
            due.same("kind of 2^101", trial.floats.kind(0), LimbFloats.INFINITE);
            trial.floats.load(0, 1, -101);
            due.same("kind of 2^-101", trial.floats.kind(0), LimbFloats.SUBNORMAL);
            due.same("E of 2^-101", trial.floats.exponent(0), -100);
        }
    }

    private static void normal() {
        for (int precision = 2; precision <= 64; precision++) {
            for (int e = -100; e <= 100; e += 20) {
                Trial trial = new Trial(precision);
                trial.floats.load(0, 1, e);
                looks(trial, 0, LimbFloats.NORMAL, e, power(precision - 1));
                trial.put(1, "+" + Trial.greatest(precision, e));
                looks(trial, 1, LimbFloats.NORMAL, e, power(precision).subtract(BigInteger.ONE));
            }
        }
    }

    private static void subnormal() {
        for (int precision = 2; precision <= 64; precision++) {
            Trial trial = new Trial(precision);
            trial.floats.load(0, 1, -100 - precision + 1);
            looks(trial, 0, LimbFloats.SUBNORMAL, -100, BigInteger.ONE);
            trial.put(1, "+" + Trial.greatestSubnormal(precision));
            looks(trial, 1, LimbFloats.SUBNORMAL, -100, power(precision - 1).subtract(BigInteger.ONE));
            trial.floats.calculate(Trial.ADD, 0, 1, 2);
            looks(trial, 2, LimbFloats.NORMAL, -100, power(precision - 1));
            due.same("flags", trial.floats.flags(), 0);
        }
    }

    private static void looks(Trial trial, int slot, int kind, int exponent, BigInteger whole) {
        due.same("kind at " + trial.precision, trial.floats.kind(slot), kind);
        due.same("E at " + trial.precision, trial.floats.exponent(slot), exponent);
        due.same("M at " + trial.precision, trial.whole(slot), whole);
    }
}
