/** Counts the answers of one test that are not as due, and ends it. */
final class Due {
    private static final int MOST_TOLD = 40;
    private int asked = 0;
    private int wrong = 0;

    void is(String call, long got, long want) {
        note(call, got == want, Long.toString(got), Long.toString(want));
    }

    void is(String call, boolean got, boolean want) {
        is(call, got ? 1 : 0, want ? 1 : 0);
    }

    void same(String name, String got, String want) {
        note(name, got.equals(want), got, want);
    }

    private void note(String name, boolean right, String got, String want) {
        asked++;
        if (!right) {
            wrong++;
            if (wrong <= MOST_TOLD) {
                System.out.println(name + " answered " + got + ", due is " + want);
            }
        }
    }

    /** For a test whose next answers may take for ever if one was wrong already. */
    void endIfWrong() {
        if (wrong != 0) {
            end();
        }
    }

    void end() {
        System.out.println(asked + " answers asked, " + wrong + " not as due");
        if (wrong != 0 || asked == 0) {
            System.exit(1);
        }
    }
}
