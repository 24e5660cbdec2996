/**
 * Counts the answers that are not as due, and ends a test with exit code 1 if there was one. What
 * is looked at is told by the sentences of the document, each with a test of its own.
 */
final class Due {
    private static final int MOST_TOLD = 50;
    private int asked = 0;
    private int wrong = 0;
    private int sentences = 0;
    private String about = "";

    /** A test that looks at nothing counts as wrong, since it can't fail. */
    void sentence(String words, Runnable test) {
        int askedBefore = asked;
        about = "\"" + words + "\": ";
        test.run();
        yes("this test looks at something", asked > askedBefore);
        about = "";
        sentences++;
    }

    void same(String what, Object got, Object want) {
        asked++;
        if (!got.equals(want)) {
            wrong++;
            if (wrong <= MOST_TOLD) {
                System.out.println(about + what + ": answered " + got + ", due is " + want);
            }
        }
    }

    void yes(String what, boolean got) {
        same(what, got, true);
    }

    void no(String what, boolean got) {
        same(what, got, false);
    }

    void end() {
        String counted = sentences == 0 ? "" : sentences + " sentences, ";
        System.out.println(counted + asked + " answers looked at, " + wrong + " not as due");
        if (wrong != 0 || asked == 0) {
            System.exit(1);
        }
    }
}
