/** The program and the model side by side: every call goes to both, and all that shows is compared. */
final class Both {
    private final Due due;
    private final String name;
    private final StringBuilder told = new StringBuilder();
    final LimbFloats floats;
    final Model model;
    /** How many calls the object has had, since no more than 512 are promised an answer. */
    int calls = 0;

    Both(Due due, int precision) {
        this.due = due;
        name = "LimbFloats(" + precision + ")";
        floats = new LimbFloats(precision);
        model = new Model(precision);
    }

    private String tell(String call) {
        told.append("; ").append(call);
        int from = Math.max(0, told.length() - 300);
        return name + " .." + told.substring(from);
    }

    /** One text for one comparison of all that a slot shows. */
    private static String shown(int kind, boolean negative, int exponent, int[] bits) {
        return kind + (negative ? "-" : "+") + exponent + ":" + bits[3] + "," + bits[2] + "," + bits[1] + "," + bits[0];
    }

    private String got(int x) {
        calls += 7;
        int[] bits = {floats.bits(x, 0), floats.bits(x, 1), floats.bits(x, 2), floats.bits(x, 3)};
        return shown(floats.kind(x), floats.negative(x), floats.exponent(x), bits);
    }

    private String want(int x) {
        int[] bits = {model.bits(x, 0), model.bits(x, 1), model.bits(x, 2), model.bits(x, 3)};
        return shown(model.kind(x), model.negative(x), model.exponent(x), bits);
    }

    private void check(String call, Object gotAnswer, Object wantAnswer, int into) {
        String what = tell(call);
        calls += 2;
        due.same(what, gotAnswer, wantAnswer);
        due.same(what, got(into), want(into));
        due.same(what + "; flags()", floats.flags(), model.flags());
    }

    void allSlots() {
        for (int x = 0; x < 8; x++) {
            due.same(tell("slot " + x), got(x), want(x));
        }
    }

    void load(int into, int m, int e) {
        check("load(" + into + ", " + m + ", " + e + ")", floats.load(into, m, e), model.load(into, m, e), into);
    }

    void special(int into, int what, boolean negative) {
        check("special(" + into + ", " + what + ", " + negative + ")",
            floats.special(into, what, negative), model.special(into, what, negative), into);
    }

    void mode(int m) {
        calls++;
        due.same(tell("mode(" + m + ")"), floats.mode(m), model.mode(m));
    }

    void calculate(int op, int x, int y, int into) {
        check("calculate(" + op + ", " + x + ", " + y + ", " + into + ")",
            floats.calculate(op, x, y, into), model.calculate(op, x, y, into), into);
    }

    void fuse(int x, int y, int z, int into) {
        check("fuse(" + x + ", " + y + ", " + z + ", " + into + ")",
            floats.fuse(x, y, z, into), model.fuse(x, y, z, into), into);
    }

    void root(int x, int into) {
        check("root(" + x + ", " + into + ")", floats.root(x, into), model.root(x, into), into);
    }

    void whole(int x, int into) {
        check("whole(" + x + ", " + into + ")", floats.whole(x, into), model.whole(x, into), into);
    }

    void step(int x, boolean up, int into) {
        check("step(" + x + ", " + up + ", " + into + ")", floats.step(x, up, into), model.step(x, up, into), into);
    }

    void scale(int x, int k, int into) {
        check("scale(" + x + ", " + k + ", " + into + ")", floats.scale(x, k, into), model.scale(x, k, into), into);
    }

    void questions(int x, int y) {
        calls += 2;
        due.same(tell("compare(" + x + ", " + y + ")"), floats.compare(x, y), model.compare(x, y));
        due.same(tell("integer(" + x + ")"), floats.integer(x), model.integer(x));
    }

    /** A slot becomes sign * whole * 2^unit, of up to 64 bits, without a look at it on the way. */
    void set(int into, int spare, boolean negative, long whole, int unit) {
        int sign = negative ? -1 : 1;
        int[] parts = {(int) (whole & 0x3FFFFFFF), (int) (whole >>> 30 & 0x3FFFFFFF), (int) (whole >>> 60)};
        calls += 8;
        floats.special(into, 0, negative);
        model.special(into, 0, negative);
        for (int i = 2; i >= 0; i--) {
            floats.load(spare, sign * parts[i], unit + 30 * i);
            model.load(spare, sign * parts[i], unit + 30 * i);
            floats.calculate(0, into, spare, into);
            model.calculate(0, into, spare, into);
        }
        tell("set(" + into + ", " + negative + ", " + Long.toUnsignedString(whole) + " * 2^" + unit + ")");
        due.same(told.toString(), got(into), want(into));
        due.same(told + "; flags()", floats.flags(), model.flags());
    }
}
