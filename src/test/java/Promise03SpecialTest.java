public final class Promise03SpecialTest {
    private static final String[] PLUS = {"+0", "+inf", "not"};
    private static final String[] MINUS = {"-0", "-inf", "not"};
    private static final Due due = new Due();
    private static final Refusal refusal = new Refusal(due);

    public static void main(String[] args) {
        due.sentence("A float becomes zero (what 0)", () -> becomes(0));
        due.sentence("infinite (1)", () -> becomes(1));
        due.sentence("or not a number (2)", () -> becomes(2));
        due.sentence("with that sign", Promise03SpecialTest::overAnyFloat);
        due.sentence("false, and nothing changes, if into is none of these", Promise03SpecialTest::noSlot);
        due.sentence("false, and nothing changes, if what is none of these", Promise03SpecialTest::noSuchThing);
        due.end();
    }

    private static void becomes(int what) {
        for (int into = 0; into < 8; into++) {
            becomes(into, what, false, PLUS[what]);
            becomes(into, what, true, MINUS[what]);
        }
    }

    private static void becomes(int into, int what, boolean negative, String want) {
        Trial trial = new Trial(24);
        for (int slot = 0; slot < 8; slot++) {
            trial.floats.load(slot, -7, 2);
        }
        due.yes("special", trial.floats.special(into, what, negative));
        for (int slot = 0; slot < 8; slot++) {
            due.same("special(" + into + ", " + what + ", " + negative + "), slot " + slot,
                trial.show(slot), slot == into ? want : "-7p2");
        }
        due.same("special sets no flag", trial.floats.flags(), 0);
    }

    /** The older float's sign does not stay, in no mode, and flags do. */
    private static void overAnyFloat() {
        for (int mode = 0; mode < 5; mode++) {
            for (int into = 0; into < 8; into++) {
                for (int what = 0; what < 3; what++) {
                    Trial trial = Trial.ofEveryKind(11, mode, 31);
                    trial.floats.special(into, what, false);
                    due.same("special " + what + " into slot " + into, trial.show(into), PLUS[what]);
                    trial.floats.special(into, what, true);
                    due.same("special " + what + " into slot " + into, trial.show(into), MINUS[what]);
                    due.same("flags stay over special", trial.floats.flags(), 31);
                }
            }
        }
    }

    private static void noSlot() {
        for (int into : Refusal.NO_SLOTS) {
            for (int what = 0; what < 3; what++) {
                int thing = what;
                refusal.refused("special(" + into + ", " + what + ")", f -> f.special(into, thing, true));
            }
        }
    }

    private static void noSuchThing() {
        for (int what : new int[] {-1, 3, 4, 256, Integer.MIN_VALUE, Integer.MAX_VALUE}) {
            for (int into = 0; into < 8; into++) {
                int slot = into;
                refusal.refused("special(" + into + ", " + what + ")", f -> f.special(slot, what, false));
            }
            refusal.refused("special(8, " + what + ")", f -> f.special(8, what, true));
        }
    }
}
