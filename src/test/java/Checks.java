/** Counts the answers that are not as due. */
final class Checks {
    private int wrong = 0;
    private String about = "";

    /** What the checks from here on are of; it is told with each that is wrong. */
    void about(String what) {
        about = what + ": ";
    }

    void due(String call, long got, long want) {
        due(call, Long.toString(got), Long.toString(want));
    }

    void due(String call, boolean got, boolean want) {
        due(call, Boolean.toString(got), Boolean.toString(want));
    }

    void due(String call, String got, String want) {
        if (!got.equals(want)) {
            wrong++;
            System.out.println(about + call + " answered " + got + ", due is " + want);
        }
    }

    /** The i-th .. of the latest run are these and there are no more. */
    void row(String what, CopyReplace x, int... want) {
        for (int i = 0; i < want.length; i++) {
            if (throwsAt(x, i)) {
                wrong++;
                System.out.println(what + ": at(" + i + ") throws, due is " + want[i]);
            } else {
                due(what + ": at(" + i + ")", x.at(i), want[i]);
            }
        }
        noneAt(what, x, want.length);
    }

    void noneAt(String what, CopyReplace x, int i) {
        due(what + ": at(" + i + ") throws", throwsAt(x, i) ? 1 : 0, 1);
    }

    /** place(i, 0 .. 4) are these. */
    void place(String what, CopyReplace x, int i, int... want) {
        for (int k = 0; k < want.length; k++) {
            due(what + ": place(" + i + ", " + k + ")", x.place(i, k), want[k]);
        }
    }

    void end() {
        System.out.println(wrong == 0 ? "all answers are as due" : wrong + " answers are not as due");
        if (wrong != 0) {
            System.exit(1);
        }
    }

    /** The exception's very class is looked at: one above or below it would be wrong. */
    private static boolean throwsAt(CopyReplace x, int i) {
        try {
            x.at(i);
            return false;
        } catch (RuntimeException e) {
            return e.getClass() == ArrayIndexOutOfBoundsException.class;
        }
    }
}
