/** Counts the answers that are not as due; a test ends with end(). */
final class Due {
    private int wrong;
    private int asked;

    void be(String what, long got, long want) {
        asked++;
        if (got != want) {
            wrong++;
            System.out.println(what + " answered " + got + ", due is " + want);
        }
    }

    void be(String what, boolean got, boolean want) {
        be(what, got ? 1 : 0, want ? 1 : 0);
    }

    void be(String what, String got, String want) {
        asked++;
        if (!got.equals(want)) {
            wrong++;
            System.out.println(what + " answered " + got + ", due is " + want);
        }
    }

    boolean anyWrong() {
        return wrong > 0;
    }

    void end() {
        System.out.println(asked + " answers, " + wrong + " not as due");
        if (wrong > 0) {
            System.exit(1);
        }
    }
}
