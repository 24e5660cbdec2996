/** The sentence on 512 calls, and what LANGUAGE.md asks of calls beyond them and of any arguments. */
public final class WhatItIsTest {
    private static final int CALLS = 512;
    private static final int[] WILD = {Integer.MIN_VALUE, Integer.MIN_VALUE + 1, -65536, -401, -301, -8, -1, 0, 1, 3, 4, 5,
        6, 7, 8, 64, 101, 300, 400, 65536, Integer.MAX_VALUE - 1, Integer.MAX_VALUE};
    private static final Due due = new Due();

    public static void main(String[] args) {
        due.sentence("at most 512 calls: the last of them is answered as the first", WhatItIsTest::lastCalls);
        due.sentence("at most 512 calls: what they changed shows at the last", WhatItIsTest::lastLooks);
        due.sentence("at most 512 calls: all of one kind", WhatItIsTest::sameCalls);
        due.sentence("what later calls answer is free, but they end", WhatItIsTest::laterCalls);
        due.sentence("No call may ever throw or fail to end, for any arguments in any state", WhatItIsTest::anyArguments);
        due.end();
    }

    /** An object that has had so many calls of all kinds, some of them refused; slots 0 and 1 are 3 and -5/2, no flags. */
    private static LimbFloats used(int calls) {
        LimbFloats f = new LimbFloats(24);
        for (int i = 0; i < calls - 3; i++) {
            use(f, i);
        }
        f.load(0, 3, 0);
        f.load(1, -5, -1);
        f.flags();
        return f;
    }

    private static void use(LimbFloats f, int i) {
        switch (i % 17) {
            case 0 -> f.load(i % 9, i, i % 350);
            case 1 -> f.special(i % 9, i % 4, i % 2 == 0);
            case 2 -> f.calculate(i % 8, i % 9, 1, 2);
            case 3 -> f.fuse(0, 1, i % 8, 3);
            case 4 -> f.root(i % 8, 4);
            case 5 -> f.whole(i % 8, 5);
            case 6 -> f.step(i % 8, i % 2 == 0, 6);
            case 7 -> f.scale(i % 8, i % 500, 7);
            case 8 -> f.compare(0, i % 8);
            case 9 -> f.integer(i % 8);
            case 10 -> f.kind(i % 8);
            case 11 -> f.negative(i % 8);
            case 12 -> f.exponent(i % 8);
            case 13 -> f.bits(0, i % 4);
            case 14 -> f.flags();
            case 15 -> f.mode(i % 6);
            default -> f.mode(0);
        }
    }

    private static void last(String call, Object want, Refusal.Call made) {
        due.same("call " + CALLS + ", " + call, made.on(used(CALLS - 1)), want);
    }

    private static void lastCalls() {
        last("load", true, f -> f.load(7, 1, 300));
        last("load", false, f -> f.load(8, 1, 300));
        last("special", true, f -> f.special(0, 2, false));
        last("special", false, f -> f.special(0, 3, false));
        last("mode", true, f -> f.mode(4));
        last("mode", false, f -> f.mode(5));
        last("calculate", true, f -> f.calculate(3, 0, 1, 2));
        last("calculate", false, f -> f.calculate(7, 0, 1, 2));
        last("fuse", true, f -> f.fuse(0, 1, 2, 3));
        last("fuse", false, f -> f.fuse(0, 1, 2, 8));
        last("root", true, f -> f.root(0, 1));
        last("root", false, f -> f.root(0, 8));
        last("whole", true, f -> f.whole(0, 1));
        last("whole", false, f -> f.whole(-1, 1));
        last("step", true, f -> f.step(0, true, 1));
        last("step", false, f -> f.step(0, true, 8));
        last("scale", true, f -> f.scale(0, -400, 1));
        last("scale", false, f -> f.scale(0, -401, 1));
        last("compare", 1, f -> f.compare(0, 1));
        last("compare", -2, f -> f.compare(0, 8));
        last("integer", -2, f -> f.integer(1));
        last("kind", 2, f -> f.kind(1));
        last("negative", true, f -> f.negative(1));
        last("exponent", 1, f -> f.exponent(1));
        last("bits", 0xC0, f -> f.bits(0, 1));
        last("flags", 0, f -> f.flags());
    }

    /** The call before the last one changes something, and the last one shows it. */
    private static void change(String call, Trial.Act made, Object want, Refusal.Call shown) {
        LimbFloats floats = used(CALLS - 2);
        due.yes("call " + (CALLS - 1) + ", " + call, made.on(floats));
        due.same("call " + CALLS + " after " + call, shown.on(floats), want);
    }

    private static void lastLooks() {
        change("load", f -> f.load(7, 11, 1), 22, f -> f.integer(7));
        change("load", f -> f.load(7, 1, 300), 5, f -> f.flags());
        change("special", f -> f.special(0, 2, true), 4, f -> f.kind(0));
        change("sum", f -> f.calculate(0, 0, 1, 2), -1, f -> f.exponent(2));
        change("difference", f -> f.calculate(1, 0, 1, 2), 5, f -> f.integer(2));
        change("product", f -> f.calculate(2, 0, 1, 2), -7, f -> f.integer(2));
        change("quotient", f -> f.calculate(3, 0, 1, 2), 1, f -> f.flags());
        change("remainder", f -> f.calculate(4, 0, 1, 2), -1, f -> f.exponent(2));
        change("fused sum", f -> f.fuse(0, 0, 1, 2), 6, f -> f.integer(2));
        change("root", f -> f.root(1, 2), 16, f -> f.flags());
        change("whole", f -> f.whole(1, 2), 1, f -> f.flags());
        change("step", f -> f.step(0, true, 2), 1, f -> f.compare(2, 0));
        change("scale", f -> f.scale(0, 4, 2), 48, f -> f.integer(2));
    }

    private static void sameCalls() {
        LimbFloats sums = new LimbFloats(24);
        sums.load(0, 1, 0);
        sums.load(1, 1, 0);
        LimbFloats steps = new LimbFloats(24);
        LimbFloats halves = new LimbFloats(64);
        halves.load(0, 1, 100);
        for (int i = 0; i < CALLS - 3; i++) {
            due.yes("sum " + i, sums.calculate(0, 0, 1, 0));
            due.yes("step " + i, steps.step(0, true, 0));
            due.yes("half " + i, halves.scale(0, i < 263 ? -1 : 1, 0));
        }
        due.same("509 times 1 added to 1", sums.integer(0), 510);
        due.same("509 steps from 0", steps.bits(0, 0), 509);
        due.same("2^100, halved 263 times and doubled 246 times", halves.exponent(0), 83);
        due.same("flags of halves", halves.flags(), 0);
    }

    private static void laterCalls() {
        LimbFloats f = new LimbFloats(53);
        for (int i = 0; i < 200000; i++) {
            use(f, i);
        }
        due.yes("200000 calls have ended", true);
    }

    /** On two objects, since the same calls always give the same answers. */
    private static void anyArguments() {
        for (int precision : new int[] {Integer.MIN_VALUE, 2, 33, 64, Integer.MAX_VALUE}) {
            LimbFloats one = new LimbFloats(precision);
            LimbFloats other = new LimbFloats(precision);
            for (int a : WILD) {
                for (int b : WILD) {
                    due.same("calls with " + a + " and " + b, answers(one, a, b), answers(other, a, b));
                }
            }
        }
    }

    private static long answers(LimbFloats f, int a, int b) {
        long sum = f.kind(a) + 3L * f.exponent(b) + 5L * f.bits(a, b) + 7L * f.integer(a) + 11L * f.compare(a, b);
        sum = 13 * sum + f.flags() + (f.negative(a) ? 1 : 0) + (f.mode(a) ? 2 : 0);
        sum = 29 * sum + (f.root(a, b) ? 1 : 0) + (f.whole(a, b) ? 2 : 0);
        sum = 17 * sum + (f.step(a, b > 0, b) ? 1 : 0) + (f.special(a, b, b > 0) ? 2 : 0);
        for (int c : WILD) {
            sum = 19 * sum + (f.load(a, b, c) ? 1 : 0) + (f.scale(a, b, c) ? 2 : 0);
            for (int d : WILD) {
                sum = 23 * sum + (f.calculate(a, b, c, d) ? 1 : 0) + (f.fuse(a, b, c, d) ? 2 : 0);
            }
        }
        return sum;
    }
}
