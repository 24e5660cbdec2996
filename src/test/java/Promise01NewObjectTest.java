import java.math.BigInteger;

public final class Promise01NewObjectTest {
    private static final String EMPTY = "+0 +0 +0 +0 +0 +0 +0 +0";
    private static final Due due = new Due();

    public static void main(String[] args) {
        due.sentence("LimbFloats(int precision)", Promise01NewObjectTest::asGiven);
        due.sentence("precision: below 2 becomes 2", Promise01NewObjectTest::tooSmall);
        due.sentence("above 64 becomes 64", Promise01NewObjectTest::tooGreat);
        due.sentence("All floats are +0", Promise01NewObjectTest::startsEmpty);
        due.sentence("mode 0", Promise01NewObjectTest::startsInModeZero);
        due.sentence("no flags", Promise01NewObjectTest::startsWithoutFlags);
        due.sentence("A new object", Promise01NewObjectTest::objectsAreApart);
        due.end();
    }

    private static void asGiven() {
        for (int precision = 2; precision <= 64; precision++) {
            holdsPrecision(precision, precision);
        }
    }

    private static void tooSmall() {
        for (int precision : new int[] {1, 0, -1, -2, -64, Integer.MIN_VALUE}) {
            holdsPrecision(precision, 2);
        }
    }

    private static void tooGreat() {
        for (int precision : new int[] {65, 66, 128, 1000, Integer.MAX_VALUE}) {
            holdsPrecision(precision, 64);
        }
    }

    /** M of 1 is 2^(p-1), and of the number before 2 it is 2^p - 1; the least float tells p too. */
    private static void holdsPrecision(int given, int precision) {
        Trial trial = new Trial(given);
        trial.floats.load(0, 1, 0);
        due.same("M of 1 at " + given, trial.whole(0), BigInteger.ONE.shiftLeft(precision - 1));
        trial.floats.load(1, 2, 0);
        trial.floats.step(1, false, 1);
        due.same("M before 2 at " + given, trial.whole(1), BigInteger.ONE.shiftLeft(precision).subtract(BigInteger.ONE));
        due.same("E before 2 at " + given, trial.floats.exponent(1), 0);
        due.yes("load at " + given, trial.floats.load(2, 1, -100 - precision + 1));
        due.same("M of the least float at " + given, trial.whole(2), BigInteger.ONE);
        due.same("flags at " + given, trial.floats.flags(), 0);
    }

    private static void startsEmpty() {
        for (int precision = -1; precision <= 66; precision++) {
            due.same("new floats at " + precision, new Trial(precision).showAll(), EMPTY);
        }
    }

    private static void startsInModeZero() {
        for (int precision = -1; precision <= 66; precision++) {
            Trial trial = new Trial(precision);
            due.same("mode at " + precision, Refusal.roundings(trial), Refusal.roundings(trial.precision, 0));
        }
        due.same("1 - 1", Trial.done(2, 0, f -> f.calculate(Trial.SUBTRACT, 0, 0, 6), "+1p0"), "+0 0");
    }

    private static void startsWithoutFlags() {
        for (int precision = -1; precision <= 66; precision++) {
            due.same("new flags at " + precision, new LimbFloats(precision).flags(), 0);
        }
    }

    private static void objectsAreApart() {
        Trial one = new Trial(5);
        Trial other = new Trial(5);
        one.floats.load(0, 1, -300);
        one.floats.load(1, 3, 0);
        one.floats.mode(2);
        due.same("another object's floats", other.showAll(), EMPTY);
        due.same("another object's flags", other.floats.flags(), 0);
        due.same("another object's mode", Refusal.roundings(other), Refusal.roundings(5, 0));
    }
}
