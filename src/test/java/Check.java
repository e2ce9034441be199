/** Counts the answers that are not as due, and ends a test with exit code 1 if there was one. */
final class Check {
    private static final String NOTHING = "nothing";
    private int asked;
    private int wrong;
    private int sentences;
    private String prefix = "";

    /** A call whose exception, if any, is looked at. */
    interface Call {
        void make();
    }

    /** A test of its own for one sentence of the document; its words stand before what it finds. */
    void sentence(String words, Call test) {
        int askedBefore = asked;
        sentences++;
        prefix = words + " | ";
        dueThrown("the test", thrownBy(test), NOTHING);
        due("a test that asks something", asked > askedBefore + 1, true);
        prefix = "";
    }

    void due(String what, long got, long want) {
        asked++;
        if (got != want) {
            wrong++;
            System.out.println(prefix + what + " answered " + got + ", due is " + want);
        }
    }

    void due(String what, boolean got, boolean want) {
        due(what, got ? 1 : 0, want ? 1 : 0);
    }

    void same(String what, String got, String want) {
        asked++;
        if (!got.equals(want)) {
            wrong++;
            System.out.println(prefix + what + " answered " + got + ", due is " + want);
        }
    }

    void illegalArgument(String what, Call call) {
        dueThrown(what, thrownBy(call), "IllegalArgumentException");
    }

    void illegalState(String what, Call call) {
        dueThrown(what, thrownBy(call), "IllegalStateException");
    }

    void throwsNothing(String what, Call call) {
        dueThrown(what, thrownBy(call), NOTHING);
    }

    void end() {
        String tested = sentences == 0 ? "" : sentences + " sentences, ";
        System.out.println(tested + asked + " answers asked, " + wrong + " not as due");
        if (wrong != 0 || asked == 0) {
            System.exit(1);
        }
    }

    private void dueThrown(String what, String got, String want) {
        asked++;
        if (!got.equals(want)) {
            wrong++;
            System.out.println(prefix + what + " throws " + got + ", due is " + want);
        }
    }

    private static String thrownBy(Call call) {
        try {
            call.make();
            return NOTHING;
        } catch (RuntimeException e) {
            return e.getClass().getSimpleName();
        }
    }
}
