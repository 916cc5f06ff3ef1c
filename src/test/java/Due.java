/** Compares answers with those that are due, prints each that differs, and ends the test with exit code 1 if one did. */
final class Due {
    private int compared;
    private int wrong;

    void is(String call, long got, long due) {
        compared++;
        if (got != due) {
            wrong++;
            System.out.println(call + " answered " + got + ", due is " + due);
        }
    }

    /** Compares rows of answers. */
    void is(String calls, String got, String due) {
        compared++;
        if (!got.equals(due)) {
            wrong++;
            System.out.println(calls + " answered " + got + ", due is " + due);
        }
    }

    /** Whether nothing was wrong as yet; a long comparison stops at the first wrong answer. */
    boolean allRight() {
        return wrong == 0;
    }

    void end() {
        System.out.println(wrong == 0 ? compared + " answers are as due" : wrong + " of " + compared + " answers are not as due");
        if (wrong != 0) {
            System.exit(1);
        }
    }
}
