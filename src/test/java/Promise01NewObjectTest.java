import java.math.BigInteger;

public final class Promise01NewObjectTest {
    private static final Due due = new Due();

    public static void main(String[] args) {
        for (int precision = 2; precision <= 64; precision++) {
            holdsPrecision(precision, precision);
        }
        int[] tooSmall = {1, 0, -1, -64, Integer.MIN_VALUE};
        int[] tooGreat = {65, 66, 128, 1000, Integer.MAX_VALUE};
        for (int precision : tooSmall) {
            holdsPrecision(precision, 2);
        }
        for (int precision : tooGreat) {
            holdsPrecision(precision, 64);
        }
        startsEmpty();
        startsInModeZero();
        objectsAreApart();
        due.end();
    }

    /** M of 1 is 2^(p-1), and of the number before 2 it is 2^p - 1. */
    private static void holdsPrecision(int given, int precision) {
        Trial trial = new Trial(given);
        trial.floats.load(0, 1, 0);
        due.same("M of 1 at " + given, trial.whole(0), BigInteger.ONE.shiftLeft(precision - 1));
        trial.floats.load(1, 2, 0);
        trial.floats.step(1, false, 1);
        due.same("M before 2 at " + given, trial.whole(1), BigInteger.ONE.shiftLeft(precision).subtract(BigInteger.ONE));
        due.same("E before 2 at " + given, trial.floats.exponent(1), 0);
    }

    private static void startsEmpty() {
        for (int precision = 2; precision <= 64; precision += 31) {
            Trial trial = new Trial(precision);
            due.same("new floats", trial.showAll(), "+0 +0 +0 +0 +0 +0 +0 +0");
            due.same("new flags", trial.floats.flags(), 0);
        }
    }

    private static void startsInModeZero() {
        Trial trial = new Trial(2);
        trial.floats.load(0, 5, 0);
        trial.floats.load(1, 7, 0);
        trial.floats.load(2, -5, 0);
        trial.floats.load(3, -7, 0);
        due.same("ties of a new object", trial.showAll(), "+1p2 +1p3 -1p2 -1p3 +0 +0 +0 +0");
        trial.floats.load(0, 1, 0);
        trial.floats.calculate(Trial.SUBTRACT, 0, 0, 0);
        due.same("1 - 1", trial.show(0), "+0");
    }

    private static void objectsAreApart() {
        Trial one = new Trial(5);
        Trial other = new Trial(5);
        one.floats.load(0, 1, -300);
        one.floats.load(1, 3, 0);
        one.floats.mode(2);
        due.same("another object's floats", other.showAll(), "+0 +0 +0 +0 +0 +0 +0 +0");
        due.same("another object's flags", other.floats.flags(), 0);
        other.floats.load(0, 65, 0);
        due.same("another object's mode", other.show(0), "+1p6");
    }
}
