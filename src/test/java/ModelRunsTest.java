/** Long mixed runs at every precision against the model; the numbers come from a fixed sequence. */
public final class ModelRunsTest {
    private static final int OBJECTS_PER_PRECISION = 300;
    // A round may take 36 calls and the last look at all slots takes 56: that stays below 512.
    private static final int CALLS_BEFORE_LAST_ROUND = 400;
    private static final int[] UNITS = {-163, -164, -100, -101, -50, -1, 0, 1, 31, 37, 50, 99};

    private final Due due = new Due();
    private long state = 88172645463325252L;

    public static void main(String[] args) {
        ModelRunsTest test = new ModelRunsTest();
        for (int precision = 0; precision <= 66; precision++) {
            for (int i = 0; i < OBJECTS_PER_PRECISION; i++) {
                test.run(precision);
            }
        }
        test.due.end();
    }

    private long next() {
        state ^= state << 13;
        state ^= state >>> 7;
        state ^= state << 17;
        return state * 0x2545F4914F6CDD1DL;
    }

    private int below(int bound) {
        return (int) Long.remainderUnsigned(next() >>> 11, bound);
    }

    private boolean coin() {
        return below(2) == 0;
    }

    /** Now and then one that is not there. */
    private int slot() {
        return below(60) == 0 ? (coin() ? -1 : 8) : below(8);
    }

    /** Ones and zeros in long rows make ties, carries and cancellations likely. */
    private long pattern() {
        switch (below(6)) {
            case 0:
                return next();
            case 1:
                return -1L >>> below(64);
            case 2:
                return 1L << below(64) | 1L << below(64);
            case 3:
                return (-1L >>> below(64)) << below(64);
            case 4:
                return (1L << below(64)) + below(3) - 1;
            default:
                return next() >>> below(64);
        }
    }

    private int unit(int precision) {
        switch (below(4)) {
            case 0:
                return UNITS[below(UNITS.length)] + below(3) - 1;
            case 1:
                return 101 - precision - below(4);
            case 2:
                return below(200) - 150;
            default:
                return -below(70);
        }
    }

    private void run(int precision) {
        Both both = new Both(due, precision);
        for (int i = 0; both.calls < CALLS_BEFORE_LAST_ROUND; i++) {
            if (i < 5 || below(6) == 0) {
                prepare(both);
            } else if (below(10) == 0) {
                meet(both, below(4), below(4));
            } else {
                operate(both);
            }
        }
        both.allSlots();
    }

    private void prepare(Both both) {
        int kind = below(12);
        if (kind == 0) {
            both.special(slot(), below(4), coin());
        } else if (kind < 4) {
            both.load(slot(), (int) pattern(), below(620) - 310);
        } else if (kind < 6) {
            both.mode(below(6));
        } else {
            int into = below(8);
            both.set(into, (into + 1) % 8, coin(), pattern(), unit(both.model.precision));
        }
    }

    /** Values that chance seldom brings together: one that cancels, a square, a half. */
    private void meet(Both both, int x, int y) {
        switch (below(3)) {
            case 0:
                both.special(5, 0, coin());
                both.calculate(2, x, y, 6);
                both.calculate(1, 5, 6, 7);
                both.fuse(x, y, 7, 6);
                break;
            case 1:
                both.calculate(2, x, x, 6);
                both.root(6, 7);
                both.step(6, coin(), 6);
                both.root(6, 7);
                break;
            default:
                both.scale(x, -1, 6);
                both.scale(x, below(3), 7);
                both.calculate(below(2), 7, 6, 7);
                both.calculate(4, 7, x, 5);
        }
    }

    private void operate(Both both) {
        switch (below(12)) {
            case 0:
                both.root(slot(), slot());
                break;
            case 1:
                both.whole(slot(), slot());
                break;
            case 2:
                both.step(slot(), coin(), slot());
                break;
            case 3:
                both.scale(slot(), coin() ? below(810) - 405 : below(40) - 20, slot());
                break;
            case 4:
            case 5:
                both.fuse(slot(), slot(), slot(), slot());
                break;
            case 6:
                both.questions(slot(), slot());
                break;
            default:
                both.calculate(below(60) == 0 ? 7 : below(7), slot(), slot(), slot());
        }
    }
}
