import java.util.ArrayList;
import java.util.List;

/** Every operation in every mode on all pairs of a set of floats of 2 and 3 bits, against the model. */
public final class ModelSmallTest {
    private static final int[][] EDGES = {{-100, -97}, {-51, -49}, {-2, 2}, {49, 51}, {99, 100}};
    private static final int[][] FEW = {{-100, -99}, {-50, -50}, {0, 0}, {50, 50}, {100, 100}};

    public static void main(String[] args) {
        Due due = new Due();
        pairs(due, 2, floats(2, EDGES));
        pairs(due, 3, floats(3, EDGES));
        triples(due, 2, floats(2, FEW));
        due.end();
    }

    /** Each as {what, sign, m, e}: what is 0 for a load and 1 to 3 for zero, infinite and not a number. */
    private static List<int[]> floats(int precision, int[][] ranges) {
        List<int[]> all = new ArrayList<>();
        for (int sign = 0; sign < 2; sign++) {
            for (int what = 1; what <= 3; what++) {
                all.add(new int[] {what, sign, 0, 0});
            }
            for (int[] range : ranges) {
                for (int e = range[0]; e <= range[1]; e++) {
                    int first = e == -100 ? 1 : 1 << (precision - 1);
                    for (int m = first; m < 1 << precision; m++) {
                        all.add(new int[] {0, sign, m, e - precision + 1});
                    }
                }
            }
        }
        return all;
    }

    private static void put(Both both, int into, int[] value) {
        if (value[0] == 0) {
            both.load(into, value[1] == 1 ? -value[2] : value[2], value[3]);
        } else {
            both.special(into, value[0] - 1, value[1] == 1);
        }
    }

    private static void pairs(Due due, int precision, List<int[]> all) {
        for (int[] x : all) {
            for (int[] y : all) {
                Both both = new Both(due, precision);
                put(both, 0, x);
                put(both, 1, y);
                for (int mode = 0; mode < 5; mode++) {
                    both.mode(mode);
                    for (int op = 0; op < 7; op++) {
                        both.calculate(op, 0, 1, 2 + op % 6);
                    }
                }
                both.questions(0, 1);
            }
            alone(due, precision, x);
        }
    }

    private static void alone(Due due, int precision, int[] x) {
        for (int mode = 0; mode < 5; mode++) {
            Both both = new Both(due, precision);
            put(both, 3, x);
            both.mode(mode);
            both.root(3, 4);
            both.whole(3, 5);
            both.step(3, true, 6);
            both.step(3, false, 7);
            for (int k = -400; k <= 400; k += 25) {
                both.scale(3, k, 0);
            }
        }
    }

    private static void triples(Due due, int precision, List<int[]> all) {
        for (int[] x : all) {
            for (int[] y : all) {
                for (int[] z : all) {
                    Both both = new Both(due, precision);
                    put(both, 0, x);
                    put(both, 1, y);
                    put(both, 2, z);
                    for (int mode = 0; mode < 5; mode++) {
                        both.mode(mode);
                        both.fuse(0, 1, 2, 7);
                    }
                }
            }
        }
    }
}
